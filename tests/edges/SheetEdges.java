/** The edges of sheets and of arranging: 'Terms', and promises 14, 15 and 21. */
final class SheetEdges {
    private static final String NO_AIR = "Throws `IndexOutOfBoundsException` if there is no such air";

    private SheetEdges() {
    }

    static void all() {
        sheet();
        write();
        erase();
        order();
        whichVoice();
        farEnough();
        nearToNone();
        room();
        arrange();
    }

    /** A sheet with so many notes, at ticks 20 by 20. */
    private static CombCylinder written(int notes) {
        CombCylinder box = new CombCylinder();
        for (int i = 0; i < notes; i++) {
            box.write(0, 20 * i, 60, 0);
        }
        return box;
    }

    private static void fullSheets(CombCylinder box) {
        Boxes.rich(box);
        for (int i = 0; i < 29; i++) {
            box.write(5, 20 * i, 50 + i % 24, i % 4);
        }
    }

    private static void sheet() {
        Edge.of("Airs", "There are the airs 0 to 5", () -> {
            CombCylinder box = new CombCylinder();
            for (int air = 0; air < 6; air++) {
                Check.same("the first note of " + air, box.write(air, 0, 60, 0), 1);
            }
            Twins.range(Boxes::rich, Twins.INDEX, 0, 5, (b, air) -> b.write(air, 0, 60, 0));
            Twins.range(Boxes::rich, Twins.INDEX, 0, 5, CombCylinder::erase);
            Twins.range(Boxes::rich, Twins.INDEX, 0, 5, CombCylinder::pins);
        });
        Edge.of("Airs", "each with a sheet of at most 30 notes", () -> {
            CombCylinder box = new CombCylinder();
            for (int air = 0; air < 6; air++) {
                for (int i = 1; i <= 30; i++) {
                    Check.same("note " + i, box.write(air, 20 * (i - 1), 60, 0), i);
                }
            }
            Twins.refuses("the 31st", SheetEdges::fullSheets, Twins.STATE, b -> b.write(5, 0, 60, 0));
            Check.same("a full sheet", box.erase(0), 30);
            Check.same("an empty sheet", box.erase(0), 0);
            Check.same("written anew", box.write(0, 0, 60, 0), 1);
        });
        Edge.of("Airs", "a note on it has a tick, 0 to 599", () -> {
            Twins.range(Boxes::rich, Twins.NUMBER, 0, 599, (box, tick) -> box.write(0, tick, 60, 0));
            CombCylinder box = new CombCylinder();
            box.tooth(0, 200, 0);
            box.write(0, 0, 60, 0);
            box.write(0, 599, 60, 0);
            box.cylinder(600, 1);
            box.damper(0, 'f');
            Check.same("0 and 599 are a tick apart", box.arrange(0), 1);
            Check.same("the first", box.pull(0, 0, 0), 0);
        });
        Edge.of("Airs", "a number, 1 to 120", () -> {
            Twins.range(Boxes::rich, Twins.NUMBER, 1, 120, (box, note) -> box.write(0, 0, note, 0));
            CombCylinder box = new CombCylinder();
            box.bell(24, 1);
            box.bell(25, 120);
            box.write(0, 0, 1, 0);
            box.write(0, 0, 120, 0);
            box.cylinder(40, 1);
            Check.same("both are arranged", box.arrange(0), 0);
            Check.same("the lowest", box.pull(0, 0, 24), 0);
            Check.same("the highest", box.pull(0, 0, 25), 0);
        });
        Edge.of("Airs", "and a part, 0 to 3", () ->
            Twins.range(Boxes::rich, Twins.NUMBER, 0, 3, (box, part) -> box.write(0, 0, 60, part)));
    }

    private static void write() {
        Edge.of("14", "Returns how many notes it has", () -> {
            CombCylinder box = new CombCylinder();
            Check.same("the first", box.write(3, 0, 60, 0), 1);
            Check.same("one alike", box.write(3, 0, 60, 0), 2);
            Check.same("of another sheet", box.write(4, 0, 60, 0), 1);
            Check.same("the last", written(29).write(0, 599, 120, 3), 30);
        });
        Edge.of("14", NO_AIR, () -> {
            Twins.range(Boxes::empty, Twins.INDEX, 0, 5, (box, air) -> box.write(air, 599, 120, 3));
            Twins.refusesEach(Boxes::rich, Twins.INDEX, (box, air) -> box.write(air, 600, 0, 4), -1, 6);
        });
        Edge.of("14", "Throws `IllegalArgumentException` if a number is out of range", () -> {
            Twins.range(Boxes::empty, Twins.NUMBER, 0, 599, (box, tick) -> box.write(5, tick, 120, 3));
            Twins.range(Boxes::empty, Twins.NUMBER, 1, 120, (box, note) -> box.write(5, 599, note, 3));
            Twins.range(Boxes::empty, Twins.NUMBER, 0, 3, (box, part) -> box.write(5, 599, 120, part));
            Twins.refusesEach(SheetEdges::fullSheets, Twins.NUMBER, (box, tick) -> box.write(5, tick, 60, 0), -1, 600);
            Twins.refusesEach(SheetEdges::fullSheets, Twins.NUMBER, (box, note) -> box.write(5, 0, note, 0), 0, 121);
            Twins.refusesEach(SheetEdges::fullSheets, Twins.NUMBER, (box, part) -> box.write(5, 0, 60, part), -1, 4);
        });
        Edge.of("14", "Throws `IllegalStateException` if it has 30", () -> {
            Twins.takes(box -> {
                fullSheets(box);
                box.erase(5);
            }, (box, air) -> box.write(air, 0, 60, 0), 5);
            Twins.refuses("a full one", SheetEdges::fullSheets, Twins.STATE, box -> box.write(5, 599, 66, 0));
            Twins.takes(SheetEdges::fullSheets, (box, air) -> box.write(air, 0, 60, 0), 0, 4);
        });
    }

    private static void erase() {
        Edge.of("15", "Returns how many notes it had", () -> {
            Check.same("none", new CombCylinder().erase(5), 0);
            for (int notes : new int[] {1, 29, 30}) {
                CombCylinder box = written(notes);
                box.write(1, 0, 60, 0);
                Check.same("all", box.erase(0), notes);
                Check.same("none more", box.erase(0), 0);
                Check.same("the other sheet's", box.erase(1), 1);
            }
        });
        Edge.of("15", NO_AIR, () -> Twins.range(Boxes::empty, Twins.INDEX, 0, 5, CombCylinder::erase));
    }

    /** Air 2 has so many pins that just some are left for air 0; places 0 to 3 have 62, 61, 60, 59. */
    private static CombCylinder withRoom(int left) {
        CombCylinder box = new CombCylinder();
        for (int place = 0; place < 4; place++) {
            box.tooth(place, 190 + 5 * place, 0);
        }
        box.cylinder(600, 3);
        for (int i = 0; i < 60 - left; i++) {
            box.pin(2, 2 * i, 5, 0);
        }
        return box;
    }

    private static void order() {
        Edge.of("Arranging", "Arranging takes all pins of an air away", () -> {
            CombCylinder box = new CombCylinder();
            Boxes.full(box);
            int others = box.pins(1) + box.pins(2);
            Check.yes("it has pins", box.pins(0) > 0);
            box.erase(0);
            Check.same("an empty sheet", box.arrange(0), 0);
            Check.same("no pin of the air", box.pins(0), 0);
            Check.same("those of the others", box.pins(1) + box.pins(2), others);
        });
        Edge.of("Arranging", "then goes through its sheet by ticks", () -> {
            CombCylinder box = withRoom(1);
            box.write(0, 201, 59, 0);
            box.write(0, 200, 62, 3);
            Check.same("one is left out", box.arrange(0), 1);
            Check.same("the earlier is not", box.pull(0, 200, 0), 0);
        });
        Edge.of("Arranging", "of like ones by parts", () -> {
            CombCylinder box = withRoom(1);
            box.write(0, 200, 59, 1);
            box.write(0, 200, 62, 0);
            Check.same("one is left out", box.arrange(0), 1);
            Check.same("the lower part is not", box.pull(0, 200, 0), 0);
        });
        Edge.of("Arranging", "then by notes", () -> {
            CombCylinder box = withRoom(1);
            box.write(0, 200, 62, 0);
            box.write(0, 200, 61, 0);
            Check.same("one is left out", box.arrange(0), 1);
            Check.same("the lower note is not", box.pull(0, 200, 1), 0);
        });
        Edge.of("Arranging", "then by the order in which they were written", () -> {
            CombCylinder box = withRoom(1);
            box.tooth(23, 200, 0);
            box.write(0, 200, 60, 0);
            box.write(0, 200, 60, 0);
            Check.same("like ones are gone through, each by itself", box.arrange(0), 1);
            Check.same("one pin", box.pins(0), 1);
            box.pull(2, 0, 5);
            Check.same("with room for both", box.arrange(0), 0);
            Check.same("the lowest place", box.pull(0, 200, 2), 0);
            Check.same("the next", box.pull(0, 200, 23), 0);
        });
        Edge.of("Arranging", "by ticks, of like ones by parts, then by notes", () -> {
            int[][] notes = {{200, 62, 0}, {200, 59, 1}, {200, 61, 1}, {201, 60, 0}};
            for (int turn = 0; turn < 24; turn++) {
                for (int room = 0; room <= 4; room++) {
                    CombCylinder box = withRoom(room);
                    for (int at : orderOf(turn)) {
                        box.write(0, notes[at][0], notes[at][1], notes[at][2]);
                    }
                    Check.same("the last are left out", box.arrange(0), 4 - room);
                    for (int i = 0; i < room; i++) {
                        Check.same("the first are not", box.pull(0, notes[i][0], 62 - notes[i][1]), 0);
                    }
                }
            }
        });
    }

    /** One of the 24 orders of 0 to 3. */
    private static int[] orderOf(int turn) {
        int[] order = {0, 1, 2, 3};
        int rest = turn;
        for (int i = 3; i > 0; i--) {
            int at = rest % (i + 1);
            rest /= i + 1;
            int kept = order[at];
            order[at] = order[i];
            order[i] = kept;
        }
        return order;
    }

    private static void whichVoice() {
        Edge.of("Arranging", "Each note whose tick the cylinder has gets a pin without lean", () -> {
            for (int ticks : new int[] {40, 599, 600}) {
                CombCylinder box = new CombCylinder();
                box.tooth(0, 200, 0);
                box.cylinder(ticks, 1);
                box.write(0, ticks - 1, 60, 0);
                Check.same("the last tick", box.arrange(0), 0);
                Check.same("without lean", box.pull(0, ticks - 1, 0), 0);
                if (ticks < 600) {
                    box.erase(0);
                    box.write(0, ticks, 60, 0);
                    Check.same("the first that it has not", box.arrange(0), 1);
                    box.write(0, 599, 60, 0);
                    Check.same("the last that it has not", box.arrange(0), 2);
                    Check.same("no pin", box.pins(0), 0);
                }
            }
        });
        Edge.of("Arranging", "for the lowest place that has a voice", () -> {
            CombCylinder box = new CombCylinder();
            box.cylinder(40, 1);
            box.write(0, 5, 60, 0);
            for (int place = 27; place >= 0; place--) {
                if (place < 24) {
                    box.tooth(place, 200, 0);
                } else {
                    box.bell(place, 60);
                }
                Check.same("from " + place, box.arrange(0), 0);
                Check.same("it gets the pin", box.pull(0, 5, place), 0);
            }
        });
        Edge.of("Arranging", "that is not broken, is in tune and has this note", () -> {
            CombCylinder box = new CombCylinder();
            box.tooth(0, 200, 0);
            Boxes.breakTooth(box, 0);
            box.cylinder(40, 1);
            box.write(0, 5, 60, 0);
            Check.same("a broken one", box.arrange(0), 1);
            box.tooth(0, 200, 0);
            Check.same("a whole one", box.arrange(0), 0);
            int[][] tunes = {{1, 3, 0}, {0, 2, 1}, {2, 1, 0}, {2, 0, 1}};
            for (int[] t : tunes) {
                box.tooth(0, 200, 0);
                if (t[0] > 0) {
                    box.file(0, 't', t[0]);
                }
                box.lead(0, t[1]);
                Check.same("pitch " + box.pitch(0), box.arrange(0), t[2]);
            }
            box.tooth(0, 205, 0);
            Check.same("59 for 60", box.arrange(0), 1);
            box.tooth(0, 195, 0);
            Check.same("61 for 60", box.arrange(0), 1);
        });
    }

    private static void farEnough() {
        Edge.of("Arranging", "is as many ticks away, going round, as the voice needs to be still, or more", () -> {
            for (int kind = 0; kind < 5; kind++) {
                boolean isBent = kind > 2;
                for (int away : new int[] {-1, 0, 1}) {
                    CombCylinder box = new CombCylinder();
                    box.tooth(0, 200, 0);
                    box.damper(0, "-wfwf".charAt(kind));
                    if (isBent) {
                        box.bend(0, true);
                    }
                    int far = box.damping(0) + away;
                    box.cylinder(40, 1);
                    box.write(0, 0, 60, 0);
                    box.write(0, far, 60, 0);
                    box.write(0, 40 - far, 60, 0);
                    Check.same("ticks " + far, box.arrange(0), away < 0 ? 2 : 0);
                }
            }
            CombCylinder box = new CombCylinder();
            box.bell(24, 60);
            box.damper(24, 'w');
            box.bend(24, true);
            box.cylinder(40, 1);
            box.write(0, 0, 60, 0);
            box.write(0, 2, 60, 0);
            box.write(0, 39, 60, 0);
            Check.same("a bent bell's 2 ticks are enough, 1 round is not", box.arrange(0), 1);
            Check.same("at 2", box.pull(0, 2, 24), 0);
        });
        Edge.of("Arranging", "if each other pin of this air for that place", () -> {
            CombCylinder box = new CombCylinder();
            box.tooth(0, 200, 0);
            box.tooth(1, 205, 0);
            box.cylinder(40, 3);
            box.pin(1, 7, 0, 0);
            box.pin(2, 5, 0, 0);
            box.write(0, 5, 60, 0);
            box.write(0, 5, 59, 0);
            Check.same("other airs and places do not count", box.arrange(0), 0);
            Check.same("the one", box.pull(0, 5, 0), 0);
            Check.same("the other", box.pull(0, 5, 1), 0);
        });
    }

    private static void nearToNone() {
        Edge.of("Arranging", "and the pin comes near to none", () -> {
            int[][] others = {{0, 5, 1}, {0, 4, 1}, {0, 6, 1}, {0, 3, 0}, {0, 7, 0}, {2, 5, 1}, {2, 4, 1},
                {2, 6, 1}, {2, 7, 0}, {3, 5, 0}};
            for (int[] o : others) {
                for (int lean = -2; lean <= 2; lean += 2) {
                    CombCylinder box = new CombCylinder();
                    box.tooth(0, 200, 0);
                    box.cylinder(40, 4);
                    box.pin(o[0], o[1], 0, lean);
                    box.write(1, 5, 60, 0);
                    Check.same("beside " + o[0] + " " + o[1] + " " + lean, box.arrange(1), o[2]);
                }
            }
            for (int tick : new int[] {0, 39}) {
                CombCylinder box = new CombCylinder();
                box.bell(24, 60);
                box.cylinder(40, 2);
                box.pin(0, 39 - tick, 24, 0);
                box.write(1, tick, 60, 0);
                Check.same("round, from " + tick, box.arrange(1), 1);
                box.cylinder(41, 2);
                box.pin(0, 39 - tick, 24, 0);
                Check.same("one more tick, from " + tick, box.arrange(1), 0);
            }
        });
    }

    private static void room() {
        Edge.of("Arranging", "else it is left out, as it is with 60 pins in all", () -> {
            for (int room = 0; room <= 3; room++) {
                CombCylinder box = withRoom(room);
                box.write(0, 100, 60, 0);
                box.write(0, 200, 60, 0);
                Check.same("room for " + room, box.arrange(0), Math.max(0, 2 - room));
                Check.same("pins", box.pins(0), Math.min(2, room));
                Check.same("the others", box.pins(2), 60 - room);
            }
            CombCylinder own = new CombCylinder();
            own.tooth(0, 200, 0);
            own.cylinder(600, 1);
            for (int i = 0; i < 60; i++) {
                own.pin(0, 2 * i, 7, 0);
            }
            own.write(0, 0, 60, 0);
            Check.same("its own 60 are gone ahead", own.arrange(0), 0);
            Check.same("one pin", own.pins(0), 1);
        });
    }

    private static void arrange() {
        Edge.of("21", "Returns how many notes are left out, those whose tick the cylinder has not too", () -> {
            CombCylinder box = written(30);
            box.cylinder(600, 1);
            Check.same("a full sheet without a voice", box.arrange(0), 30);
            box.tooth(0, 200, 0);
            Check.same("a full sheet with one", box.arrange(0), 0);
            Check.same("all of it", box.pins(0), 30);
            box.cylinder(40, 1);
            Check.same("ticks that it has not", box.arrange(0), 28);
            box.erase(0);
            Check.same("an empty sheet", box.arrange(0), 0);
            Check.same("no pins", box.pins(0), 0);
        });
        Edge.of("21", "Throws `IllegalStateException` if there is no cylinder", () ->
            Twins.refusesEach(Boxes::noCylinder, Twins.STATE, CombCylinder::arrange, 0, 5, -1, 6));
        Edge.of("21", "Throws `IndexOutOfBoundsException` if there is no such air of it", () -> {
            Twins.range(Boxes::rich, Twins.INDEX, 0, 2, CombCylinder::arrange);
            Twins.range(box -> box.cylinder(40, 1), Twins.INDEX, 0, 0, CombCylinder::arrange);
            Twins.range(box -> box.cylinder(40, 6), Twins.INDEX, 0, 5, CombCylinder::arrange);
            Twins.refusesEach(Boxes::cemented, Twins.INDEX, CombCylinder::arrange, -1, 3);
        });
        Edge.of("21", "Throws `UnsupportedOperationException` if it is cemented", () ->
            Twins.refusesEach(Boxes::cemented, Twins.UNDONE, CombCylinder::arrange, 0, 1, 2));
    }
}
