/** Promises 36 to 38: lost tunings, and airs that are known by their pins. */
public final class TuningTest {
    public static void main(String[] args) {
        noneLost();
        oneLost();
        asOftenAsThere();
        severalLost();
        sameNote();
        threeInOneTick();
        tooMany();
        notLost();
        lostOrder();
        otherPins();
        worn();
        wide();
        known();
        knownOften();
        Check.end("TuningTest");
    }

    private static void noneLost() {
        CombCylinder box = new CombCylinder();
        Check.noState(box, "tunings without a cylinder", box::tunings);
        Check.noState(box, "lost without a cylinder", () -> box.lost(-1));
        box.cylinder(40, 2);
        Check.same("nothing at all", box.tunings(), 1);
        box.tooth(0, 200, 0);
        box.pin(0, 5, 0, 2);
        Check.same("a note that is not on the sheet", box.tunings(), 0);
        box.write(1, 5, 60, 0);
        Check.same("on another sheet", box.tunings(), 0);
        box.write(0, 7, 60, 0);
        Check.same("where it strikes", box.tunings(), 0);
        box.write(0, 5, 61, 0);
        Check.same("another note", box.tunings(), 0);
        box.write(0, 5, 60, 3);
        Check.same("as it must be", box.tunings(), 1);
        box.erase(0);
        Check.same("erased", box.tunings(), 0);
        box.tooth(0, 201, 0);
        Check.same("out of tune is left aside", box.tunings(), 1);
        for (int place : new int[] {-1, 24, 27, 28, Integer.MIN_VALUE, Integer.MAX_VALUE}) {
            Check.noIndex(box, "lost of no place", () -> box.lost(place));
        }
        Check.noElement(box, "lost of a whole one", () -> box.lost(0));
        Check.noElement(box, "lost of nothing", () -> box.lost(1));
    }

    private static void oneLost() {
        CombCylinder box = Boxes.broken(1, 50, 2);
        Check.same("broken without pins is not lost", box.tunings(), 1);
        Check.noElement(box, "lost without pins", () -> box.lost(0));
        box.pin(0, 3, 0, 1);
        Check.same("no sheet has a note", box.tunings(), 0);
        Check.noElement(box, "lost without a tuning", () -> box.lost(0));
        box.write(1, 3, 70, 0);
        Check.same("another sheet has one", box.tunings(), 0);
        box.write(0, 3, 72, 0);
        box.write(0, 3, 71, 1);
        box.write(0, 3, 70, 2);
        box.write(0, 3, 71, 2);
        Check.same("three notes", box.tunings(), 3);
        Check.same("the least", box.lost(0), 70);
        box.write(0, 3, 120, 0);
        box.write(0, 3, 1, 0);
        Check.same("five notes", box.tunings(), 5);
        Check.same("the least of five", box.lost(0), 1);
        box.pin(1, 20, 0, 0);
        Check.same("the other air has none", box.tunings(), 0);
        box.write(1, 20, 71, 0);
        box.write(1, 20, 72, 0);
        Check.same("two notes", box.tunings(), 2);
        Check.same("the least of two", box.lost(0), 71);
        box.pin(0, 40, 0, 0);
        box.write(0, 40, 72, 0);
        Check.same("one note", box.tunings(), 1);
        Check.same("that one", box.lost(0), 72);
        box.pin(1, 10, 9, 0);
        Check.same("nothing is at 9", box.tunings(), 1);
        box.bell(24, 50);
        box.pin(1, 10, 24, 0);
        Check.same("a bell's note is not there", box.tunings(), 0);
        box.write(1, 10, 50, 0);
        Check.same("now it is", box.tunings(), 1);
    }

    private static void asOftenAsThere() {
        CombCylinder box = Boxes.broken(1, 50, 1);
        box.tooth(1, 200, 0);
        box.pin(0, 3, 0, 0);
        box.pin(0, 3, 1, 0);
        box.write(0, 3, 60, 0);
        Check.same("60 is taken by a whole one", box.tunings(), 0);
        box.write(0, 3, 61, 0);
        Check.same("61 is left", box.tunings(), 1);
        Check.same("it is 61", box.lost(0), 61);
        box.write(0, 3, 60, 3);
        Check.same("60 is there twice", box.tunings(), 2);
        Check.same("it may be 60", box.lost(0), 60);
        box.tooth(2, 200, 0);
        box.pin(0, 3, 2, 1);
        Check.same("60 is taken twice", box.tunings(), 1);
        box.tooth(3, 200, 0);
        box.pin(0, 3, 3, 1);
        Check.same("60 is taken more often", box.tunings(), 0);
    }

    private static void severalLost() {
        CombCylinder box = Boxes.broken(3, 50, 1);
        for (int place = 0; place < 3; place++) {
            box.pin(0, 10 * place, place, 0);
        }
        int[][] notes = {{70, 60}, {61, 60, 62}, {55, 54, 53, 52}};
        for (int place = 0; place < 3; place++) {
            for (int note : notes[place]) {
                box.write(0, 10 * place, note, 0);
            }
        }
        Check.same("2 by 3 by 4", box.tunings(), 24);
        Check.same("first of 0", box.lost(0), 60);
        Check.same("first of 1", box.lost(1), 60);
        Check.same("first of 2", box.lost(2), 52);
        Check.noElement(box, "3 is not lost", () -> box.lost(3));
        box.tooth(1, 200, 0);
        Check.same("2 by 4", box.tunings(), 8);
        Check.noElement(box, "1 is not lost", () -> box.lost(1));
        Check.same("first of 2 still", box.lost(2), 52);
    }

    private static void sameNote() {
        CombCylinder box = Boxes.broken(2, 50, 2);
        box.pin(0, 3, 0, 0);
        box.pin(0, 3, 1, 0);
        box.write(0, 3, 60, 0);
        Check.same("one note for two", box.tunings(), 0);
        box.write(0, 3, 61, 0);
        Check.same("two notes for two", box.tunings(), 2);
        Check.same("the lowest gets the least", box.lost(0), 60);
        Check.same("the next the other", box.lost(1), 61);
        box.write(0, 3, 60, 1);
        Check.same("60 is there twice", box.tunings(), 3);
        Check.same("the lowest has 60", box.lost(0), 60);
        Check.same("the next too", box.lost(1), 60);
        box.pin(1, 8, 0, 0);
        box.pin(1, 8, 1, 0);
        box.write(1, 8, 60, 0);
        box.write(1, 8, 61, 0);
        Check.same("once in the other air", box.tunings(), 2);
        Check.same("the next has 61", box.lost(1), 61);
    }

    private static void threeInOneTick() {
        CombCylinder box = Boxes.broken(3, 50, 1);
        for (int place = 0; place < 3; place++) {
            box.pin(0, 3, place, 0);
        }
        box.write(0, 3, 60, 0);
        box.write(0, 3, 60, 0);
        Check.same("60 twice for three", box.tunings(), 0);
        box.write(0, 3, 65, 0);
        Check.same("60 twice and 65", box.tunings(), 3);
        Check.same("the last has 65", box.lost(2), 65);
        box.write(0, 3, 60, 0);
        Check.same("60 three times and 65", box.tunings(), 4);
        Check.same("all have 60", box.lost(2), 60);
        box.erase(0);
        for (int i = 0; i < 4; i++) {
            box.write(0, 3, 60 + i % 2, i);
        }
        Check.same("60 and 61 twice", box.tunings(), 6);
        Check.same("the last has 61", box.lost(2), 61);
    }

    private static void tooMany() {
        CombCylinder box = Boxes.broken(5, 50, 1);
        for (int place = 0; place < 3; place++) {
            box.pin(0, 3, place, 0);
        }
        Check.same("three lost", box.tunings(), 0);
        box.pin(0, 3, 3, 0);
        Check.notDone(box, "tunings of four", box::tunings);
        Check.notDone(box, "lost of four", () -> box.lost(0));
        Check.notDone(box, "lost of four, a whole one", () -> box.lost(9));
        Check.noIndex(box, "lost of four, no place", () -> box.lost(24));
        box.pull(0, 3, 0);
        box.write(0, 3, 60, 0);
        box.write(0, 3, 61, 0);
        box.write(0, 3, 62, 0);
        Check.same("three lost again", box.tunings(), 6);
        Check.noElement(box, "0 is lost no more", () -> box.lost(0));
        Check.same("1 is the lowest", box.lost(1), 60);
        Check.same("3 is the last", box.lost(3), 62);
    }

    private static void notLost() {
        CombCylinder box = Boxes.broken(2, 50, 1);
        box.pin(0, 3, 0, 0);
        box.write(0, 3, 60, 0);
        Check.noElement(box, "broken without pins", () -> box.lost(1));
        Check.same("the other one", box.lost(0), 60);
        box.tooth(0, 200, 0);
        Check.noElement(box, "put anew", () -> box.lost(0));
        Check.same("as it must be", box.tunings(), 1);
    }

    /** Tunings are in order by the lowest tooth, whatever its pins are. */
    private static void lostOrder() {
        CombCylinder box = Boxes.broken(2, 50, 1);
        box.pin(0, 30, 0, 0);
        box.pin(0, 3, 1, 0);
        box.write(0, 30, 90, 0);
        box.write(0, 30, 80, 1);
        box.write(0, 3, 20, 1);
        box.write(0, 3, 10, 2);
        Check.same("four", box.tunings(), 4);
        Check.same("0 in the first", box.lost(0), 80);
        Check.same("1 in the first", box.lost(1), 10);
    }

    /** Airs of the cylinder alone are looked at, but each of them. */
    private static void otherPins() {
        CombCylinder box = Boxes.broken(1, 50, 2);
        box.pin(0, 3, 0, 0);
        box.write(0, 3, 60, 0);
        box.write(4, 3, 61, 0);
        Check.same("sheet 4 does not matter", box.tunings(), 1);
        box.tooth(5, 205, 0);
        box.pin(1, 3, 5, 0);
        Check.same("59 is not on sheet 1", box.tunings(), 0);
        Check.noElement(box, "no tuning", () -> box.lost(0));
        box.write(1, 3, 59, 0);
        Check.same("59 is on sheet 1", box.tunings(), 1);
    }

    /** A tooth worn to the note 0 is in tune, but no sheet has that note. */
    private static void worn() {
        CombCylinder box = new CombCylinder();
        box.tooth(0, 400, 0);
        box.file(0, 'r', 60);
        box.lead(0, 50);
        box.lead(0, 50);
        box.cylinder(600, 1);
        for (int i = 0; i < 60; i++) {
            box.pin(0, 2 * i, 0, 0);
        }
        boolean was = false;
        for (int i = 0; i < 30; i++) {
            box.wind(20);
            box.play(i < 13 ? 40 : 1);
            box.play(i < 13 ? 40 : 1);
            box.wind(20);
            if (box.note(0) == 0 && box.isInTune(0)) {
                was = true;
                Check.same("note 0 is on no sheet", box.tunings(), 0);
                Check.noElement(box, "note 0 is known by none", () -> box.known(0));
            }
        }
        Check.same("pitch", box.pitch(0), 1340 - box.strikes(0) / 50);
        for (int i = 0; i < 60 && !was; i++) {
            box.wind(20);
            box.play(2);
            if (box.note(0) == 0 && box.isInTune(0)) {
                was = true;
                Check.same("note 0 is on no sheet", box.tunings(), 0);
                Check.noElement(box, "note 0 is known by none", () -> box.known(0));
            }
        }
        Check.yes("it was worn to 0", was);
    }

    private static void wide() {
        CombCylinder box = Boxes.broken(3, 50, 6);
        for (int air = 0; air < 6; air++) {
            for (int i = 0; i < 30; i++) {
                box.write(air, 0, 120 - i, 0);
            }
        }
        for (int place = 0; place < 3; place++) {
            box.pin(2 * place, 0, place, 0);
        }
        Check.same("30 by 30 by 30", box.tunings(), 27000);
        Check.same("the least", box.lost(2), 91);
        box.pin(2, 0, 0, 0);
        box.pin(4, 0, 0, 0);
        Check.same("not the same as 0", box.tunings(), 30 * 29 * 29);
        Check.same("the least of 0", box.lost(0), 91);
        Check.same("the next of 1", box.lost(1), 92);
        Check.same("the next of 2", box.lost(2), 92);
    }

    private static void known() {
        CombCylinder box = new CombCylinder();
        Check.noState(box, "known without a cylinder", () -> box.known(-1));
        box.cylinder(60, 2);
        for (int air : new int[] {-1, 2, 5, Integer.MAX_VALUE}) {
            Check.noIndex(box, "known of no air", () -> box.known(air));
        }
        box.tooth(0, 200, 0);
        box.tooth(1, 205, 0);
        box.tooth(2, 211, 0);
        box.pin(0, 3, 0, 1);
        box.pin(0, 3, 1, 0);
        box.pin(0, 9, 2, 0);
        box.pin(0, 20, 9, 0);
        box.pin(1, 20, 0, 0);
        Check.noElement(box, "no sheets", () -> box.known(0));
        box.write(1, 4, 60, 0);
        box.write(1, 9, 58, 0);
        Check.noElement(box, "leans aside, and in tune", () -> box.known(0));
        box.write(5, 3, 60, 0);
        Check.same("a sheet beyond the cylinder", box.known(0), 5);
        box.write(2, 3, 59, 0);
        Check.same("the lowest of two", box.known(0), 2);
        box.write(4, 3, 59, 0);
        box.write(4, 3, 60, 0);
        Check.same("the one with the most", box.known(0), 4);
        box.write(3, 3, 59, 0);
        box.write(3, 3, 60, 0);
        Check.same("the lowest with the most", box.known(0), 3);
        Check.noElement(box, "another air", () -> box.known(1));
        box.write(0, 20, 60, 0);
        Check.same("another air is known", box.known(1), 0);
        CombCylinder broken = Boxes.broken(1, 50, 1);
        broken.pin(0, 3, 0, 0);
        broken.write(2, 3, 60, 0);
        Check.noElement(broken, "broken ones have no note", () -> broken.known(0));
        broken.tooth(0, 200, 0);
        Check.same("whole ones have", broken.known(0), 2);
    }

    private static void knownOften() {
        CombCylinder box = new CombCylinder();
        box.cylinder(60, 1);
        box.tooth(0, 200, 0);
        box.tooth(1, 200, 0);
        box.tooth(2, 205, 0);
        box.pin(0, 3, 0, 0);
        box.pin(0, 3, 1, 0);
        box.pin(0, 9, 2, 0);
        box.write(0, 9, 59, 0);
        box.write(0, 9, 59, 1);
        box.write(0, 9, 59, 2);
        box.write(1, 3, 60, 0);
        Check.same("pins count, not notes", box.known(0), 1);
    }
}
