/** The edges of voices, pitch and dampers: 'Terms', and promises 3 to 13, 30 and 35. */
final class VoiceEdges {
    private static final String NO_PLACE = "Throws `IndexOutOfBoundsException` if there is no such place";
    private static final String NO_COMB = "Throws `IndexOutOfBoundsException` if there is no such place of the comb";
    private static final String NOTHING = "Throws `NoSuchElementException` if nothing is there";
    private static final String OUT_OF_RANGE = "Throws `IllegalArgumentException` if a number is out of range";

    private VoiceEdges() {
    }

    static void all() {
        places();
        sizes();
        ownThings();
        pitch();
        steelLeft();
        leadRange();
        noteAndTune();
        dampers();
        placesOfPromises();
        nothingThere();
        put();
        looks();
        fileAndLead();
        damperAndBend();
    }

    private static CombCylinder withTooth(int length) {
        CombCylinder box = new CombCylinder();
        box.tooth(0, length, 0);
        return box;
    }

    private static void tooth(CombCylinder box) {
        box.tooth(0, 200, 0);
    }

    private static void places() {
        Edge.of("Voices", "There are the places 0 to 23 of the comb, for teeth, and 24 to 27, for bells", () -> {
            CombCylinder box = new CombCylinder();
            for (int place = 0; place < 24; place++) {
                Check.no("a tooth at " + place, box.tooth(place, 200 + place, 0));
            }
            for (int place = 24; place < 28; place++) {
                Check.no("a bell at " + place, box.bell(place, place));
            }
            for (int place = 0; place < 28; place++) {
                Check.same("the voice of " + place, box.pitch(place), place < 24 ? 6000 - 20 * place : 100 * place);
            }
            Twins.refusesEach(Boxes::rich, Twins.UNDONE, (b, place) -> b.tooth(place, 200, 0), 24, 25, 26, 27);
            Twins.refusesEach(Boxes::rich, Twins.UNDONE, (b, place) -> b.bell(place, 60), 0, 1, 22, 23);
            Twins.refusesEach(Boxes::rich, Twins.INDEX, (b, place) -> b.tooth(place, 200, 0), -1, 28);
            Twins.refusesEach(Boxes::rich, Twins.INDEX, (b, place) -> b.bell(place, 60), -1, 28);
        });
    }

    private static void sizes() {
        Edge.of("Voices", "A tooth has a length, 100 to 400", () -> {
            Check.same("the shortest", withTooth(100).pitch(0), 8000);
            Check.same("the longest", withTooth(400).pitch(0), 2000);
            Twins.range(Boxes::rich, Twins.NUMBER, 100, 400, (box, length) -> box.tooth(0, length, 0));
        });
        Edge.of("Voices", "a reach, 0 to 2", () -> {
            for (int reach = 0; reach <= 2; reach++) {
                CombCylinder box = new CombCylinder();
                box.tooth(0, 200, reach);
                box.cylinder(40, 6);
                for (int air = 0; air < 6; air++) {
                    box.pin(air, 6 * air, 0, 0);
                }
                Check.same("reach " + reach + " from the first air", box.foreign(0), reach);
                Check.same("reach " + reach + " from the last air", box.foreign(5), reach);
                Check.same("reach " + reach + " to both sides", box.foreign(2), 2 * reach);
            }
            Twins.range(Boxes::rich, Twins.NUMBER, 0, 2, (box, reach) -> box.tooth(0, 200, reach));
        });
        Edge.of("Voices", "and 100 of steel", () -> {
            Check.same("of the shortest", withTooth(100).steel(0), 100);
            Check.same("of the longest", withTooth(400).steel(0), 100);
        });
        Edge.of("Voices", "a bell has a note, 1 to 120, and the reach 0", () -> {
            CombCylinder box = new CombCylinder();
            box.bell(24, 1);
            box.bell(27, 120);
            Check.same("the lowest", box.note(24), 1);
            Check.same("the highest", box.note(27), 120);
            Twins.range(Boxes::rich, Twins.NUMBER, 1, 120, (b, note) -> b.bell(24, note));
            box.cylinder(40, 3);
            for (int air = 0; air < 3; air++) {
                box.pin(air, 10 * air, 24, 0);
            }
            Check.same("no reach", box.foreign(1), 0);
            Check.same("its own air", box.heard(1, 10), 1);
        });
    }

    /** A tooth with all that a voice can get, filed to the last and broken. */
    private static CombCylinder wornBox() {
        CombCylinder box = withTooth(200);
        box.file(0, 't', 50);
        box.file(0, 'r', 10);
        box.lead(0, 50);
        box.lead(0, 50);
        box.damper(0, 'f');
        box.bend(0, true);
        Boxes.breakTooth(box, 0);
        return box;
    }

    private static void ownThings() {
        Edge.of("Voices", "A voice that is put at a place takes that of another one", () -> {
            CombCylinder box = wornBox();
            Check.yes("a voice was there", box.tooth(0, 300, 0));
            Check.same("neither filed nor leaded nor struck", box.pitch(0), 4000);
            Check.same("all of its steel", box.steel(0), 100);
            Check.notDone(box, "no lead to take away", () -> box.lead(0, -1));
            Check.notDone(box, "no damper to bend", () -> box.bend(0, false));
            Check.same("still as without a damper", box.damping(0), 8);
            Check.same("no damper", box.damper(0, 'w'), '-');
            Check.same("its damper is straight", box.damping(0), 4);
            Check.same("no strikes", box.strikes(0), 0);
            Check.no("not broken", box.isBroken(0));
            Check.same("it can be filed to the last", box.file(0, 'r', 60), 3640);
            box.bell(27, 60);
            box.damper(27, 'w');
            box.bend(27, true);
            box.cylinder(40, 1);
            box.pin(0, 0, 27, 0);
            Boxes.play(box, 3);
            Check.same("strikes of a bell", box.strikes(27), 3);
            Check.yes("a bell was there", box.bell(27, 61));
            Check.same("a bell without strikes", box.strikes(27), 0);
            Check.same("a bell without damper", box.damper(27, '-'), '-');
            Check.same("the new note", box.note(27), 61);
            Check.yes("strikes are counted anew", box.isTrue());
        });
    }

    private static void pitch() {
        Edge.of("Pitch", "is 10000, less 20 times its length", () -> {
            for (int length = 100; length <= 400; length++) {
                Check.same("length " + length, withTooth(length).pitch(0), 10000 - 20 * length);
            }
        });
        Edge.of("Pitch", "more by 4 for each that was filed off at the tip", () -> {
            Check.same("1 off", withTooth(200).file(0, 't', 1), 6004);
            Check.same("60 off", withTooth(200).file(0, 't', 60), 6240);
        });
        Edge.of("Pitch", "less by 6 for each at the root", () -> {
            Check.same("1 off", withTooth(200).file(0, 'r', 1), 5994);
            Check.same("60 off", withTooth(200).file(0, 'r', 60), 5640);
        });
        Edge.of("Pitch", "less by 3 for each of lead", () -> {
            CombCylinder box = withTooth(200);
            Check.same("1 of lead", box.lead(0, 1), 5997);
            box.lead(0, 49);
            Check.same("100 of lead", box.lead(0, 50), 5700);
        });
        Edge.of("Pitch", "less by 1 for each 50 strikes, cut", () -> {
            CombCylinder box = withTooth(200);
            box.cylinder(40, 1);
            box.pin(0, 0, 0, 0);
            int struck = 0;
            for (int strikes : new int[] {1, 49, 50, 51, 99, 100, 149, 150}) {
                Boxes.play(box, strikes - struck);
                struck = strikes;
                Check.same("strikes", box.strikes(0), strikes);
                Check.same("pitch at " + strikes, box.pitch(0), 6000 - strikes / 50);
            }
        });
        Edge.of("Pitch", "The pitch of a bell is 100 times its note", () -> {
            CombCylinder box = new CombCylinder();
            for (int note = 1; note <= 120; note++) {
                box.bell(24, note);
                Check.same("bell " + note, box.pitch(24), 100 * note);
                Check.same("its note", box.note(24), note);
                Check.yes("in tune", box.isInTune(24));
            }
        });
    }

    private static void steelLeft() {
        Edge.of("Pitch", "Filing takes steel; 40 are left at least", () -> {
            for (char where : new char[] {'t', 'r'}) {
                CombCylinder box = withTooth(200);
                box.file(0, where, 60);
                Check.same("40 are left", box.steel(0), 40);
                Twins.refuses("1 of 40", b -> {
                    tooth(b);
                    b.file(0, where, 60);
                }, Twins.UNDONE, b -> b.file(0, where, 1));
                Twins.Use made = b -> {
                    tooth(b);
                    b.file(0, 't', 30);
                    b.file(0, 'r', 20);
                };
                Twins.takes(made, (b, by) -> b.file(0, where, by), 1, 9, 10);
                Twins.refusesEach(made, Twins.UNDONE, (b, by) -> b.file(0, where, by), 11, 12, 60);
            }
        });
    }

    private static void leadRange() {
        Edge.of("Pitch", "It has 0 to 100 of lead, 0 at first", () -> {
            Twins.takes(VoiceEdges::tooth, (b, by) -> b.lead(0, by), 0, 1, 50);
            Twins.refusesEach(VoiceEdges::tooth, Twins.UNDONE, (b, by) -> b.lead(0, by), -1, -50);
            Twins.Use ninety = b -> {
                tooth(b);
                b.lead(0, 50);
                b.lead(0, 40);
            };
            Twins.takes(ninety, (b, by) -> b.lead(0, by), 9, 10, -50);
            Twins.refusesEach(ninety, Twins.UNDONE, (b, by) -> b.lead(0, by), 11, 50);
            Twins.Use ten = b -> {
                tooth(b);
                b.lead(0, 10);
            };
            Twins.takes(ten, (b, by) -> b.lead(0, by), -10, -9, 50);
            Twins.refusesEach(ten, Twins.UNDONE, (b, by) -> b.lead(0, by), -11, -50);
        });
    }

    /** A tooth of the pitch 6000, more by 4 for each of the tip, less by 6 and 3 for root and lead. */
    private static CombCylinder tuned(int tip, int root, int lead) {
        CombCylinder box = withTooth(200);
        if (tip > 0) {
            box.file(0, 't', tip);
        }
        if (root > 0) {
            box.file(0, 'r', root);
        }
        box.lead(0, lead);
        return box;
    }

    private static void noteAndTune() {
        Edge.of("Pitch", "The note of a voice is the pitch and 50, divided by 100, cut", () -> {
            int[][] made = {{13, 0, 1, 6049, 60}, {14, 1, 0, 6050, 61}, {13, 0, 0, 6052, 61},
                {1, 2, 14, 5950, 60}, {0, 0, 17, 5949, 59}, {0, 0, 16, 5952, 60}};
            for (int[] m : made) {
                CombCylinder box = tuned(m[0], m[1], m[2]);
                Check.same("pitch", box.pitch(0), m[3]);
                Check.same("note of " + m[3], box.note(0), m[4]);
            }
        });
        Edge.of("Pitch", "The note of a voice is the pitch and 50, divided by 100, cut", VoiceEdges::wornBelowZero);
        Edge.of("Pitch", "it is in tune if the pitch is not more than 5 from 100 times that", () -> {
            int[][] made = {{0, 0, 0, 6000, 1}, {2, 0, 1, 6005, 1}, {3, 1, 0, 6006, 0}, {1, 0, 3, 5995, 1},
                {0, 1, 0, 5994, 0}, {13, 0, 1, 6049, 0}, {14, 1, 0, 6050, 0}, {30, 4, 0, 6096, 1},
                {25, 1, 0, 6094, 0}, {29, 0, 7, 6095, 1}, {26, 0, 0, 6104, 1}, {27, 0, 1, 6105, 1},
                {28, 1, 0, 6106, 0}};
            for (int[] m : made) {
                CombCylinder box = tuned(m[0], m[1], m[2]);
                Check.same("pitch", box.pitch(0), m[3]);
                Check.same("in tune at " + m[3], box.isInTune(0) ? 1 : 0, m[4]);
            }
        });
    }

    /** The lowest tooth, worn by so many strikes that its pitch goes below 0. */
    private static void wornBelowZero() {
        CombCylinder box = new CombCylinder();
        box.tooth(0, 400, 0);
        box.file(0, 'r', 60);
        box.lead(0, 50);
        box.lead(0, 50);
        box.cylinder(600, 1);
        for (int i = 0; i < 60; i++) {
            box.pin(0, 2 * i, 0, 0);
        }
        box.write(0, 0, 1, 0);
        for (int turns = 40; turns <= 1320; turns += 40) {
            Boxes.play(box, 40);
            int pitch = 1340 - turns * 60 / 50;
            int note = pitch >= 50 ? (pitch + 50) / 100 : pitch > -150 ? 0 : -1;
            Check.same("pitch", box.pitch(0), pitch);
            Check.same("note of " + pitch, box.note(0), note);
            boolean isTuned = Math.abs(pitch - 100 * note) <= 5;
            Check.same("in tune at " + pitch, box.isInTune(0) ? 1 : 0, isTuned ? 1 : 0);
            Check.same("not as it must be, unless left aside, at " + pitch, box.tunings(), isTuned ? 0 : 1);
            Check.same("off at " + pitch, box.meanOffBits(), Double.doubleToLongBits(Math.abs(pitch - 100 * note)));
        }
        Check.same("the lowest", box.pitch(0), -244);
    }

    private static void dampers() {
        Edge.of("Dampers", "8 without a damper '-', 4 with one of wire 'w', 2 with one of feather 'f'", () -> {
            CombCylinder box = withTooth(200);
            Check.same("without", box.damping(0), 8);
            char[] kinds = {'w', 'f', '-'};
            int[] still = {4, 2, 8};
            for (int i = 0; i < 3; i++) {
                box.damper(0, kinds[i]);
                Check.same("with " + kinds[i], box.damping(0), still[i]);
            }
        });
        Edge.of("Dampers", "a bell 1 with or without", () -> {
            CombCylinder box = new CombCylinder();
            box.bell(24, 60);
            Check.same("without", box.damping(24), 1);
            for (char kind : new char[] {'w', 'f', '-'}) {
                box.damper(24, kind);
                Check.same("with " + kind, box.damping(24), 1);
            }
        });
        Edge.of("Dampers", "twice as many if it has a damper that is bent", () -> {
            CombCylinder box = withTooth(200);
            box.bell(24, 60);
            for (char kind : new char[] {'w', 'f'}) {
                for (int place : new int[] {0, 24}) {
                    box.damper(place, kind);
                    int straight = box.damping(place);
                    box.bend(place, true);
                    Check.same("bent " + kind, box.damping(place), 2 * straight);
                    box.bend(place, true);
                    Check.same("bent again " + kind, box.damping(place), 2 * straight);
                    box.bend(place, false);
                    Check.same("straight again " + kind, box.damping(place), straight);
                }
            }
        });
        Edge.of("Dampers", "A damper that is given is straight", () -> {
            CombCylinder box = withTooth(200);
            box.damper(0, 'w');
            box.bend(0, true);
            box.damper(0, 'w');
            Check.same("one like it", box.damping(0), 4);
            box.bend(0, true);
            box.damper(0, '-');
            Check.same("none", box.damping(0), 8);
            box.damper(0, 'f');
            Check.same("one behind none", box.damping(0), 2);
            Check.no("is straight", box.bend(0, true));
        });
    }

    private static void noPlace(int promise, Twins.NumberUse call) {
        Edge.of("" + promise, NO_PLACE, () -> {
            Twins.takes(VoiceEdges::everywhere, call, 0, 23, 24, 27);
            Twins.refusesEach(VoiceEdges::everywhere, Twins.INDEX, call, -1, 28, Integer.MIN_VALUE, Integer.MAX_VALUE);
            Twins.refusesEach(Boxes::empty, Twins.INDEX, call, -1, 28);
        });
    }

    private static void noComb(int promise, Twins.NumberUse call) {
        Edge.of("" + promise, NO_COMB, () -> {
            Twins.takes(VoiceEdges::everywhere, call, 0, 23);
            Twins.refusesEach(VoiceEdges::everywhere, Twins.INDEX, call,
                    -1, 24, 27, 28, Integer.MIN_VALUE, Integer.MAX_VALUE);
            Twins.refusesEach(Boxes::empty, Twins.INDEX, call, -1, 24);
        });
    }

    /** A voice at each place, with a damper. */
    private static void everywhere(CombCylinder box) {
        for (int place = 0; place < 28; place++) {
            if (place < 24) {
                box.tooth(place, 200, 0);
            } else {
                box.bell(place, 60);
            }
            box.damper(place, 'w');
        }
    }

    private static void placesOfPromises() {
        Edge.of("3", NO_PLACE, () -> {
            Twins.takes(Boxes::empty, (box, place) -> box.tooth(place, 200, 0), 0, 23);
            Twins.refusesEach(Boxes::rich, Twins.INDEX, (box, place) -> box.tooth(place, 200, 0),
                    -1, 28, Integer.MIN_VALUE, Integer.MAX_VALUE);
            Twins.refusesEach(Boxes::rich, Twins.INDEX, (box, place) -> box.tooth(place, 99, 3), -1, 28);
        });
        Edge.of("4", NO_PLACE, () -> {
            Twins.takes(Boxes::empty, (box, place) -> box.bell(place, 60), 24, 27);
            Twins.refusesEach(Boxes::rich, Twins.INDEX, (box, place) -> box.bell(place, 60),
                    -1, 28, Integer.MIN_VALUE, Integer.MAX_VALUE);
            Twins.refusesEach(Boxes::rich, Twins.INDEX, (box, place) -> box.bell(place, 0), -1, 28);
        });
        noPlace(5, CombCylinder::pitch);
        noPlace(6, CombCylinder::note);
        noPlace(7, CombCylinder::isInTune);
        noComb(8, (box, place) -> box.file(place, 't', 1));
        noComb(9, (box, place) -> box.lead(place, 1));
        noComb(10, CombCylinder::steel);
        noPlace(11, (box, place) -> box.damper(place, 'f'));
        noPlace(12, (box, place) -> box.bend(place, true));
        noPlace(13, CombCylinder::damping);
        noPlace(30, CombCylinder::strikes);
        noPlace(35, CombCylinder::isBroken);
    }

    private static void nothing(int promise, Twins.NumberUse call, int... places) {
        Edge.of("" + promise, NOTHING, () -> {
            Twins.refusesEach(Boxes::empty, Twins.NOTHING, call, places);
            Twins.refusesEach(Boxes::rich, Twins.NOTHING, call, 3, 22);
            Twins.takes(VoiceEdges::everywhere, call, places);
        });
    }

    private static void nothingThere() {
        nothing(5, CombCylinder::pitch, 0, 23, 24, 27);
        nothing(6, CombCylinder::note, 0, 23, 24, 27);
        nothing(7, CombCylinder::isInTune, 0, 23, 24, 27);
        nothing(8, (box, place) -> box.file(place, 'r', 60), 0, 23);
        nothing(9, (box, place) -> box.lead(place, 50), 0, 23);
        nothing(10, CombCylinder::steel, 0, 23);
        nothing(11, (box, place) -> box.damper(place, 'w'), 0, 23, 24, 27);
        nothing(12, (box, place) -> box.bend(place, false), 0, 23, 24, 27);
        nothing(13, CombCylinder::damping, 0, 23, 24, 27);
        nothing(30, CombCylinder::strikes, 0, 23, 24, 27);
        nothing(35, CombCylinder::isBroken, 0, 23, 24, 27);
    }

    private static void put() {
        Edge.of("3", "Returns whether a voice was there", () -> {
            for (int place : new int[] {0, 23}) {
                CombCylinder box = new CombCylinder();
                Check.no("none", box.tooth(place, 200, 0));
                Check.yes("one", box.tooth(place, 200, 0));
                Boxes.breakTooth(box, place);
                Check.yes("a broken one", box.tooth(place, 200, 0));
            }
        });
        Edge.of("3", OUT_OF_RANGE, () -> {
            Twins.range(Boxes::empty, Twins.NUMBER, 100, 400, (box, length) -> box.tooth(23, length, 2));
            Twins.range(Boxes::empty, Twins.NUMBER, 0, 2, (box, reach) -> box.tooth(23, 400, reach));
            Twins.refusesEach(Boxes::rich, Twins.NUMBER, (box, place) -> box.tooth(place, 99, 0), 0, 5, 24, 27);
            Twins.refusesEach(Boxes::rich, Twins.NUMBER, (box, place) -> box.tooth(place, 200, 3), 0, 5, 24, 27);
        });
        Edge.of("3", "Throws `UnsupportedOperationException` if the place is for a bell", () ->
            Twins.refusesEach(Boxes::rich, Twins.UNDONE, (box, place) -> box.tooth(place, 100, 2), 24, 25, 26, 27));
        Edge.of("4", "Returns whether a voice was there", () -> {
            for (int place : new int[] {24, 27}) {
                CombCylinder box = new CombCylinder();
                Check.no("none", box.bell(place, 1));
                Check.yes("one", box.bell(place, 120));
            }
        });
        Edge.of("4", OUT_OF_RANGE, () -> {
            Twins.range(Boxes::empty, Twins.NUMBER, 1, 120, (box, note) -> box.bell(27, note));
            Twins.refusesEach(Boxes::rich, Twins.NUMBER, (box, place) -> box.bell(place, 0), 0, 23, 24, 26);
            Twins.refusesEach(Boxes::rich, Twins.NUMBER, (box, place) -> box.bell(place, 121), 0, 23, 24, 26);
        });
        Edge.of("4", "Throws `UnsupportedOperationException` if the place is for a tooth", () ->
            Twins.refusesEach(Boxes::rich, Twins.UNDONE, (box, place) -> box.bell(place, 120), 0, 5, 23));
    }

    private static void looks() {
        Edge.of("5", "Returns the hundredths, also if it is broken", () -> {
            CombCylinder box = wornBox();
            Check.yes("broken", box.isBroken(0));
            Check.same("pitch", box.pitch(0), 6000 + 200 - 60 - 300);
        });
        Edge.of("6", "Returns the note, also if it is broken", () -> Check.same("note", wornBox().note(0), 58));
        Edge.of("7", "Returns whether it is, also if it is broken", () -> {
            Check.no("5840", wornBox().isInTune(0));
            CombCylinder box = withTooth(200);
            Boxes.breakTooth(box, 0);
            Check.yes("6000", box.isInTune(0));
        });
        Edge.of("10", "Returns the steel", () -> {
            CombCylinder box = withTooth(200);
            Check.same("all of it", box.steel(0), 100);
            box.file(0, 't', 1);
            Check.same("one less", box.steel(0), 99);
            box.file(0, 'r', 59);
            Check.same("the least", box.steel(0), 40);
            Check.same("of a broken one", wornBox().steel(0), 40);
        });
        Edge.of("13", "Returns the ticks", () -> {
            CombCylinder box = wornBox();
            Check.same("of a broken one, bent", box.damping(0), 4);
            box.bend(0, false);
            Check.same("of a broken one", box.damping(0), 2);
        });
        Edge.of("30", "Returns how often", () -> {
            CombCylinder box = withTooth(200);
            Check.same("never", box.strikes(0), 0);
            Boxes.breakTooth(box, 0);
            Check.same("by the run", box.strikes(0), 3);
            Boxes.play(box, 2);
            Check.same("a broken one is not", box.strikes(0), 3);
        });
        Edge.of("35", "Returns whether it is", () -> {
            CombCylinder box = withTooth(200);
            Check.no("whole", box.isBroken(0));
            Boxes.breakTooth(box, 0);
            Check.yes("broken", box.isBroken(0));
        });
    }

    private static void fileAndLead() {
        Edge.of("8", "- `place`: the place of the comb", () ->
            Twins.takes(VoiceEdges::everywhere, (box, place) -> box.file(place, 't', 60), 0, 23));
        Edge.of("8", "- `where`: 't' at the tip, 'r' at the root", () -> {
            Check.same("the tip", withTooth(200).file(0, 't', 10), 6040);
            Check.same("the root", withTooth(200).file(0, 'r', 10), 5940);
        });
        Edge.of("8", "- `by`: how much, 1 to 60", () -> {
            Twins.range(VoiceEdges::tooth, Twins.NUMBER, 1, 60, (box, by) -> box.file(0, 't', by));
            Twins.range(VoiceEdges::tooth, Twins.NUMBER, 1, 60, (box, by) -> box.file(0, 'r', by));
        });
        Edge.of("8", "Returns the pitch then", () -> {
            CombCylinder box = withTooth(200);
            Check.same("first", box.file(0, 't', 1), 6004);
            Check.same("then", box.file(0, 'r', 1), 5998);
            Check.same("as pitch tells", box.pitch(0), 5998);
        });
        Edge.of("8", "Throws `IllegalArgumentException` if there is no such end, or the number is out of range", () -> {
            Twins.takes(VoiceEdges::tooth, (box, where) -> box.file(0, (char) where, 1), 't', 'r');
            Twins.refusesEach(Boxes::rich, Twins.NUMBER, (box, where) -> box.file(0, (char) where, 1),
                    's', 'u', 'q', 'T', 'R', '-', 0, 255, 65535, 't' + 256);
            Twins.refusesEach(Boxes::rich, Twins.NUMBER, (box, place) -> box.file(place, 'x', 60), 1, 2, 5);
            Twins.refusesEach(Boxes::rich, Twins.NUMBER, (box, place) -> box.file(place, 't', 61), 1, 2, 5);
            Twins.refusesEach(Boxes::rich, Twins.INDEX, (box, place) -> box.file(place, 'x', 0), -1, 24);
        });
        Edge.of("8", "Throws `UnsupportedOperationException` if it is broken, or less than 40 of steel would", () -> {
            Twins.refuses("broken", Boxes::rich, Twins.UNDONE, box -> box.file(1, 't', 1));
            Twins.refusesEach(Boxes::rich, Twins.UNDONE, (box, by) -> box.file(2, 'r', by), 2, 60);
            Twins.takes(Boxes::rich, (box, by) -> box.file(2, 'r', by), 1);
        });
        Edge.of("9", "- `place`: the place of the comb", () ->
            Twins.takes(VoiceEdges::everywhere, (box, place) -> box.lead(place, 50), 0, 23));
        Edge.of("9", "- `by`: how much, -50 to 50", () -> Twins.range(box -> {
            tooth(box);
            box.lead(0, 50);
        }, Twins.NUMBER, -50, 50, (box, by) -> box.lead(0, by)));
        Edge.of("9", "Returns the pitch then", () -> {
            CombCylinder box = withTooth(200);
            Check.same("first", box.lead(0, 50), 5850);
            Check.same("then", box.lead(0, -49), 5997);
            Check.same("as pitch tells", box.pitch(0), 5997);
        });
        Edge.of("9", OUT_OF_RANGE, () -> {
            Twins.refusesEach(Boxes::rich, Twins.NUMBER, (box, place) -> box.lead(place, 51), 0, 1, 5);
            Twins.refusesEach(Boxes::rich, Twins.NUMBER, (box, place) -> box.lead(place, -51), 0, 1, 5);
            Twins.refusesEach(Boxes::rich, Twins.INDEX, (box, place) -> box.lead(place, 51), -1, 24);
        });
        Edge.of("9", "Throws `UnsupportedOperationException` if it is broken, or the lead would be out of range", () -> {
            Twins.refusesEach(Boxes::rich, Twins.UNDONE, (box, by) -> box.lead(1, by), -1, 0, 1);
            Twins.takes(Boxes::rich, (box, by) -> box.lead(0, by), -4, 0, 50);
            Twins.refusesEach(Boxes::rich, Twins.UNDONE, (box, by) -> box.lead(0, by), -5, -50);
        });
        Edge.of("10", "- `place`: the place of the comb", () ->
            Twins.takes(VoiceEdges::everywhere, CombCylinder::steel, 0, 23));
    }

    private static void damperAndBend() {
        Edge.of("11", "- `kind`: '-', 'w' or 'f'", () ->
            Twins.takes(Boxes::rich, (box, kind) -> box.damper(0, (char) kind), '-', 'w', 'f'));
        Edge.of("11", "Returns the kind before", () -> {
            CombCylinder box = withTooth(200);
            char before = '-';
            for (char kind : new char[] {'-', 'w', 'w', 'f', 'f', '-', 'f', 'w', '-'}) {
                Check.same("before " + kind, box.damper(0, kind), before);
                before = kind;
            }
        });
        Edge.of("11", "Throws `IllegalArgumentException` if there is no such kind", () -> {
            for (int place : new int[] {0, 1, 5, 24}) {
                Twins.refusesEach(Boxes::rich, Twins.NUMBER, (box, kind) -> box.damper(place, (char) kind),
                        'v', 'x', 'e', 'g', ',', '.', 'W', 'F', 0, 65535, 'w' + 256);
            }
            Twins.refusesEach(Boxes::rich, Twins.INDEX, (box, place) -> box.damper(place, 'x'), -1, 28);
        });
        Edge.of("12", "Returns whether it was", () -> {
            CombCylinder box = withTooth(200);
            box.damper(0, 'w');
            boolean was = false;
            for (boolean is : new boolean[] {false, true, true, false, false, true}) {
                Check.same("bent before", box.bend(0, is) ? 1 : 0, was ? 1 : 0);
                was = is;
            }
        });
        Edge.of("12", "Throws `UnsupportedOperationException` if it has no damper", () -> {
            Twins.refusesEach(Boxes::rich, Twins.UNDONE, (box, place) -> box.bend(place, true), 1, 2, 24);
            Twins.refusesEach(Boxes::rich, Twins.UNDONE, (box, place) -> box.bend(place, false), 1, 2, 24);
            Twins.takes(Boxes::rich, (box, place) -> box.bend(place, false), 0, 23, 27);
        });
    }
}
