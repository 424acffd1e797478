/** Promises 2 and 14 to 21: the cylinder, sheets, pins and arranging. */
public final class CylinderTest {
    private static final int[] NO_AIRS = {-1, 6, Integer.MIN_VALUE, Integer.MAX_VALUE};

    public static void main(String[] args) {
        cylinder();
        write();
        erase();
        pin();
        nearness();
        pull();
        pins();
        rake();
        cement();
        arrange();
        arrangeOrder();
        arrangeWritten();
        arrangeDampers();
        arrangeFull();
        Check.end("CylinderTest");
    }

    private static void cylinder() {
        CombCylinder box = new CombCylinder();
        int[][] wrong = {{39, 1}, {601, 1}, {40, 0}, {40, 7}, {Integer.MIN_VALUE, 1}, {40, Integer.MAX_VALUE}};
        for (int[] w : wrong) {
            Check.wrongNumber(box, "cylinder " + w[0] + " " + w[1], () -> box.cylinder(w[0], w[1]));
        }
        Check.noState(box, "none was made", box::shifted);
        Check.same("first", box.cylinder(40, 6), 0);
        box.pin(5, 39, 27, 0);
        box.pin(0, 0, 0, 0);
        box.shift(5);
        box.cement();
        Check.wrongNumber(box, "cylinder 39", () -> box.cylinder(39, 1));
        Check.same("shift stays", box.shifted(), 5);
        Check.same("second", box.cylinder(600, 1), 2);
        Check.same("without pins", box.pins(0) + box.pins(5), 0);
        Check.same("on the first air", box.shifted(), 0);
        Check.same("not cemented", box.pin(0, 599, 0, 0), 1);
        Check.noIndex(box, "air 1 of 1", () -> box.shift(1));
        Check.same("third", box.cylinder(40, 1), 1);
    }

    private static void write() {
        CombCylinder box = new CombCylinder();
        Check.same("write", box.write(0, 0, 1, 0), 1);
        Check.same("write alike", box.write(0, 0, 1, 0), 2);
        Check.same("write at the ends", box.write(5, 599, 120, 3), 1);
        for (int air : NO_AIRS) {
            Check.noIndex(box, "write no air", () -> box.write(air, -1, 0, 4));
        }
        int[][] wrong = {{-1, 1, 0}, {600, 1, 0}, {0, 0, 0}, {0, 121, 0}, {0, 1, -1}, {0, 1, 4},
            {Integer.MAX_VALUE, 1, 0}, {0, Integer.MIN_VALUE, 0}, {0, 1, Integer.MAX_VALUE}};
        for (int[] w : wrong) {
            Check.wrongNumber(box, "write wrong", () -> box.write(0, w[0], w[1], w[2]));
        }
        for (int i = 3; i <= 30; i++) {
            Check.same("write", box.write(0, i, 60, 0), i);
        }
        Check.noState(box, "write the 31st", () -> box.write(0, 5, 60, 0));
        Check.wrongNumber(box, "write wrong the 31st", () -> box.write(0, 600, 60, 0));
        Check.same("it has 30", box.erase(0), 30);
    }

    private static void erase() {
        CombCylinder box = new CombCylinder();
        box.write(2, 3, 60, 0);
        box.write(2, 4, 60, 0);
        box.write(3, 4, 60, 0);
        Check.same("erase", box.erase(2), 2);
        Check.same("erase again", box.erase(2), 0);
        Check.same("another sheet stays", box.write(3, 5, 60, 0), 2);
        Check.same("written anew", box.write(2, 5, 60, 0), 1);
        for (int air : NO_AIRS) {
            Check.noIndex(box, "erase no air", () -> box.erase(air));
        }
    }

    private static void pin() {
        CombCylinder box = new CombCylinder();
        Check.noState(box, "pin without a cylinder", () -> box.pin(-1, -1, -1, 9));
        box.cylinder(600, 2);
        Check.same("pin", box.pin(0, 0, 0, 2), 1);
        Check.same("pin at the ends", box.pin(1, 599, 27, -2), 2);
        int[][] noSuch = {{-1, 0, 0}, {2, 0, 0}, {0, -1, 0}, {0, 600, 0}, {0, 0, -1}, {0, 0, 28},
            {Integer.MAX_VALUE, 0, 0}, {0, Integer.MIN_VALUE, 0}, {0, 0, Integer.MAX_VALUE}};
        for (int[] n : noSuch) {
            Check.noIndex(box, "pin of no such", () -> box.pin(n[0], n[1], n[2], 3));
        }
        for (int lean : new int[] {-3, 3, Integer.MIN_VALUE, Integer.MAX_VALUE}) {
            Check.wrongNumber(box, "pin that leans " + lean, () -> box.pin(0, 0, 0, lean));
        }
        Check.notDone(box, "pin twice", () -> box.pin(0, 0, 0, 0));
        for (int i = 3; i <= 60; i++) {
            Check.same("pin", box.pin(0, 2 * i, 0, 0), i);
        }
        Check.notDone(box, "pin the 61st", () -> box.pin(0, 300, 0, 0));
        Check.wrongNumber(box, "pin wrong the 61st", () -> box.pin(0, 300, 0, 3));
        Check.same("pull one", box.pull(0, 6, 0), 0);
        Check.same("pin in its place", box.pin(1, 300, 3, 0), 60);
    }

    private static void nearness() {
        CombCylinder box = new CombCylinder();
        box.cylinder(40, 4);
        box.pin(1, 0, 5, 2);
        for (int air = 0; air <= 2; air++) {
            int a = air;
            for (int tick : new int[] {39, 0, 1}) {
                Check.notDone(box, "near " + air + " " + tick, () -> box.pin(a, tick, 5, -2));
            }
        }
        Check.same("two airs away", box.pin(3, 0, 5, 0), 2);
        Check.same("two ticks away", box.pin(1, 2, 5, 0), 3);
        Check.same("two ticks away round", box.pin(1, 38, 5, 0), 4);
        Check.same("another place", box.pin(1, 0, 6, 2), 5);
        box.cylinder(40, 2);
        box.pin(0, 39, 5, 0);
        Check.notDone(box, "near round", () -> box.pin(1, 0, 5, 0));
        Check.same("not near round", box.pin(1, 1, 5, 0), 2);
        Check.yes("isTrue", box.isTrue());
    }

    private static void pull() {
        CombCylinder box = new CombCylinder();
        Check.noState(box, "pull without a cylinder", () -> box.pull(-1, 0, 0));
        box.cylinder(40, 2);
        box.pin(1, 10, 3, -2);
        box.pin(0, 10, 4, 1);
        box.pin(0, 20, 3, 0);
        int[][] noSuch = {{-1, 0, 0}, {2, 10, 3}, {0, -1, 0}, {0, 40, 0}, {0, 0, -1}, {0, 0, 28},
            {Integer.MAX_VALUE, 0, 0}, {0, Integer.MIN_VALUE, 0}, {0, 0, Integer.MAX_VALUE}};
        for (int[] n : noSuch) {
            Check.noIndex(box, "pull no such", () -> box.pull(n[0], n[1], n[2]));
        }
        Check.noElement(box, "pull where it strikes", () -> box.pull(1, 8, 3));
        Check.noElement(box, "pull of another air", () -> box.pull(0, 10, 3));
        Check.noElement(box, "pull of another place", () -> box.pull(1, 10, 4));
        Check.same("pull", box.pull(1, 10, 3), -2);
        Check.noElement(box, "pull again", () -> box.pull(1, 10, 3));
        Check.same("the others stay", box.pins(0), 2);
        box.cement();
        Check.notDone(box, "pull cemented", () -> box.pull(0, 10, 4));
        Check.noElement(box, "pull none cemented", () -> box.pull(1, 10, 3));
        Check.same("they stay cemented", box.pins(0), 2);
    }

    private static void pins() {
        CombCylinder box = new CombCylinder();
        for (int air : NO_AIRS) {
            Check.noIndex(box, "pins of no air", () -> box.pins(air));
        }
        Check.same("pins without a cylinder", box.pins(5), 0);
        box.cylinder(40, 2);
        box.pin(1, 10, 3, 0);
        box.pin(1, 10, 4, 0);
        box.pin(0, 20, 4, 0);
        Check.same("pins of 0", box.pins(0), 1);
        Check.same("pins of 1", box.pins(1), 2);
        Check.same("pins of an air that it has not", box.pins(5), 0);
        for (int air : NO_AIRS) {
            Check.noIndex(box, "pins of no air", () -> box.pins(air));
        }
    }

    private static void rake() {
        CombCylinder box = new CombCylinder();
        Check.noState(box, "rake without a cylinder", box::rake);
        box.cylinder(40, 2);
        box.pin(1, 10, 3, 1);
        box.pin(1, 10, 4, -2);
        box.pin(0, 20, 4, 0);
        Check.same("rake", box.rake(), 2);
        Check.same("rake again", box.rake(), 0);
        Check.same("lean of one", box.pull(1, 10, 3), 0);
        box.pin(1, 10, 3, 1);
        box.cement();
        Check.notDone(box, "rake cemented", box::rake);
    }

    private static void cement() {
        CombCylinder box = new CombCylinder();
        Check.noState(box, "cement without a cylinder", box::cement);
        box.cylinder(40, 2);
        box.pin(0, 0, 0, 1);
        Check.no("cement", box.cement());
        Check.yes("cement again", box.cement());
        Check.notDone(box, "pin cemented", () -> box.pin(0, 20, 0, 0));
        Check.notDone(box, "arrange cemented", () -> box.arrange(0));
        Check.wrongNumber(box, "pin wrong cemented", () -> box.pin(0, 20, 0, 5));
        Check.noIndex(box, "arrange no air cemented", () -> box.arrange(2));
        Check.same("shift cemented", box.shift(1), 0);
        box.cylinder(40, 2);
        Check.no("another one", box.cement());
    }

    private static void arrange() {
        CombCylinder box = new CombCylinder();
        Check.noState(box, "arrange without a cylinder", () -> box.arrange(-1));
        box.tooth(3, 200, 0);
        box.tooth(4, 200, 0);
        box.bell(24, 61);
        box.cylinder(100, 3);
        for (int air : new int[] {-1, 3, 5, Integer.MAX_VALUE}) {
            Check.noIndex(box, "arrange no air of it", () -> box.arrange(air));
        }
        box.pin(1, 50, 9, 1);
        box.pin(0, 50, 10, 1);
        Check.same("arrange an empty sheet", box.arrange(1), 0);
        Check.same("its pins are gone", box.pins(1), 0);
        Check.same("the other air's are not", box.pins(0), 1);
        box.write(1, 10, 60, 0);
        box.write(1, 10, 61, 0);
        box.write(1, 10, 62, 0);
        box.write(1, 100, 60, 0);
        box.write(1, 99, 60, 0);
        Check.same("arrange", box.arrange(1), 2);
        Check.same("its pins", box.pins(1), 3);
        Check.same("lowest place", box.pull(1, 10, 3), 0);
        Check.same("a bell", box.pull(1, 10, 24), 0);
        Check.same("the last tick", box.pull(1, 99, 3), 0);
        box.tooth(3, 201, 0);
        Check.same("arrange anew", box.arrange(1), 2);
        Check.same("the one in tune", box.pull(1, 10, 4), 0);
        box.tooth(3, 200, 0);
        Boxes.breakTooth(box, 3);
        box.cylinder(100, 3);
        box.arrange(1);
        Check.same("the one that is whole", box.pull(1, 10, 4), 0);
        Check.same("arrange twice", box.arrange(1), 2);
        Check.same("not doubled", box.pins(1), 3);
        // Pins of the airs beside it come near, though they are as far as the voice needs.
        box.tooth(3, 200, 0);
        box.cylinder(100, 3);
        box.pin(0, 11, 3, 2);
        box.pin(2, 9, 4, -2);
        Check.same("none is free", box.arrange(1), 3);
        Check.noElement(box, "not beside 11", () -> box.pull(1, 10, 3));
        Check.noElement(box, "not beside 9", () -> box.pull(1, 10, 4));
        Check.same("99 is free", box.pull(1, 99, 3), 0);
        box.pull(2, 9, 4);
        box.pin(2, 8, 4, 2);
        Check.same("two ticks away", box.arrange(1), 2);
        Check.same("the next place is free", box.pull(1, 10, 4), 0);
    }

    private static void arrangeOrder() {
        // One voice alone: which of the notes gets it tells the order.
        CombCylinder box = new CombCylinder();
        box.tooth(0, 200, 0);
        box.cylinder(100, 1);
        box.write(0, 20, 60, 0);
        box.write(0, 13, 60, 3);
        Check.same("by ticks", box.arrange(0), 1);
        Check.same("the earlier one", box.pull(0, 13, 0), 0);
        box.erase(0);
        // With all pins but one, the note that comes first gets the last.
        CombCylinder full = fullBut(1);
        full.write(0, 10, 60, 1);
        full.write(0, 10, 59, 2);
        full.write(0, 10, 59, 3);
        Check.same("by parts", full.arrange(0), 2);
        Check.same("the lower part", full.pull(0, 10, 2), 0);
        full.erase(0);
        full.write(0, 10, 60, 1);
        full.write(0, 10, 59, 1);
        Check.same("by notes", full.arrange(0), 1);
        Check.same("the lower note", full.pull(0, 10, 3), 0);
    }

    /** However they are written, notes come by ticks, by parts, by notes: the first ones get the room. */
    private static void arrangeWritten() {
        int[][] due = {{5, 62, 3}, {50, 62, 0}, {50, 59, 1}, {50, 61, 1}, {50, 60, 2}, {90, 59, 0}};
        for (int turn = 0; turn < 720; turn++) {
            int[] order = orderOf(turn);
            int room = 1 + turn % 5;
            CombCylinder box = fullBut(room);
            for (int i : order) {
                box.write(0, due[i][0], due[i][1], due[i][2]);
            }
            Check.same("the others are left out", box.arrange(0), 6 - room);
            for (int i = 0; i < room; i++) {
                Check.same("pin of " + i, box.pull(0, due[i][0], 62 - due[i][1]), 0);
            }
        }
    }

    /** One of the 720 orders of 0 to 5. */
    private static int[] orderOf(int turn) {
        int[] order = new int[6];
        boolean[] used = new boolean[6];
        int rest = turn;
        for (int i = 0; i < 6; i++) {
            int skip = rest % (6 - i);
            rest /= 6 - i;
            int at = 0;
            while (used[at] || skip > 0) {
                skip -= used[at] ? 0 : 1;
                at++;
            }
            used[at] = true;
            order[i] = at;
        }
        return order;
    }

    /** A box with 62, 61, 60 and 59; air 0 is empty, air 2 has so many pins that just some are left. */
    private static CombCylinder fullBut(int left) {
        CombCylinder box = new CombCylinder();
        for (int place = 0; place < 4; place++) {
            box.tooth(place, 190 + 5 * place, 0);
        }
        box.cylinder(600, 3);
        for (int i = 0; i < 60 - left; i++) {
            box.pin(2, 2 * i, 5, 0);
        }
        return box;
    }

    private static void arrangeDampers() {
        char[] kinds = {'-', 'w', 'f'};
        for (char kind : kinds) {
            CombCylinder box = new CombCylinder();
            box.tooth(0, 200, 0);
            box.damper(0, kind);
            box.cylinder(40, 1);
            int needs = box.damping(0);
            box.write(0, 0, 60, 0);
            box.write(0, needs, 60, 0);
            box.write(0, 40 - needs, 60, 0);
            Check.same("as many ticks away " + kind, box.arrange(0), 0);
            box.erase(0);
            box.write(0, 0, 60, 0);
            box.write(0, needs - 1, 60, 0);
            box.write(0, 41 - needs, 60, 0);
            Check.same("one less " + kind, box.arrange(0), 2);
        }
        CombCylinder box = new CombCylinder();
        box.bell(24, 60);
        box.cylinder(40, 1);
        box.write(0, 0, 60, 0);
        box.write(0, 1, 60, 0);
        box.write(0, 2, 60, 0);
        Check.same("a bell's pins come near too", box.arrange(0), 1);
        Check.same("it is still at 2", box.pull(0, 2, 24), 0);
    }

    private static void arrangeFull() {
        CombCylinder box = fullBut(3);
        for (int i = 0; i < 5; i++) {
            box.write(0, 200 + 20 * i, 60, 0);
        }
        Check.same("60 in all", box.arrange(0), 2);
        Check.same("three got in", box.pins(0), 3);
        Check.same("arranged again", box.arrange(0), 2);
        Check.yes("isTrue", box.isTrue());
    }
}
