/** Promises 1, 3 to 13 and 35: voices, their pitch, their steel and lead, and their dampers. */
public final class VoiceTest {
    private static final int[] NO_PLACES = {-1, 28, Integer.MIN_VALUE, Integer.MAX_VALUE};
    private static final int[] NO_COMB = {-1, 24, 27, 28, Integer.MIN_VALUE, Integer.MAX_VALUE};

    public static void main(String[] args) {
        newBox();
        tooth();
        bell();
        pitchAndNote();
        inTune();
        file();
        lead();
        steel();
        damper();
        bend();
        damping();
        broken();
        replaced();
        Check.end("VoiceTest");
    }

    private static void newBox() {
        CombCylinder box = new CombCylinder();
        for (int p = 0; p < 28; p++) {
            int place = p;
            Check.noElement(box, "pitch of nothing", () -> box.pitch(place));
            Check.noElement(box, "strikes of nothing", () -> box.strikes(place));
        }
        for (int air = 0; air < 6; air++) {
            Check.same("pins at first", box.pins(air), 0);
            Check.same("erase at first", box.erase(air), 0);
        }
        Check.noState(box, "shifted at first", box::shifted);
        Check.same("checksum at first", box.checksum(), 217L);
        Check.same("played at first", box.played(), 0.0);
        Check.same("takings at first", box.takings(5), 0);
        Check.same("fan at first", box.fan(10), 10);
        Check.no("snail at first", box.snail(false));
        Check.same("speed at first", box.speedBits(), Float.floatToIntBits(1f));
        Check.yes("isTrue at first", box.isTrue());
    }

    private static void tooth() {
        CombCylinder box = new CombCylinder();
        Check.no("tooth", box.tooth(0, 100, 0));
        Check.yes("tooth again", box.tooth(0, 400, 2));
        Check.same("pitch of the second", box.pitch(0), 2000);
        Check.no("tooth 23", box.tooth(23, 100, 1));
        Check.same("pitch of the shortest", box.pitch(23), 8000);
        for (int place : NO_PLACES) {
            Check.noIndex(box, "tooth at no place", () -> box.tooth(place, 99, 9));
        }
        int[][] wrong = {{99, 0}, {401, 0}, {200, -1}, {200, 3}, {Integer.MIN_VALUE, 0}, {200, Integer.MAX_VALUE}};
        for (int[] w : wrong) {
            Check.wrongNumber(box, "tooth " + w[0] + " " + w[1], () -> box.tooth(1, w[0], w[1]));
            Check.wrongNumber(box, "tooth at a bell's " + w[0] + " " + w[1], () -> box.tooth(24, w[0], w[1]));
        }
        Check.notDone(box, "tooth 24", () -> box.tooth(24, 200, 0));
        Check.notDone(box, "tooth 27", () -> box.tooth(27, 200, 0));
        Check.noElement(box, "nothing was put", () -> box.pitch(1));
    }

    private static void bell() {
        CombCylinder box = new CombCylinder();
        Check.no("bell", box.bell(24, 1));
        Check.yes("bell again", box.bell(24, 120));
        Check.same("pitch of a bell", box.pitch(24), 12000);
        Check.no("bell 27", box.bell(27, 60));
        for (int place : NO_PLACES) {
            Check.noIndex(box, "bell at no place", () -> box.bell(place, 0));
        }
        for (int note : new int[] {0, 121, -1, Integer.MIN_VALUE, Integer.MAX_VALUE}) {
            Check.wrongNumber(box, "bell of no note", () -> box.bell(25, note));
            Check.wrongNumber(box, "bell of no note at a tooth's", () -> box.bell(0, note));
        }
        Check.notDone(box, "bell 0", () -> box.bell(0, 60));
        Check.notDone(box, "bell 23", () -> box.bell(23, 60));
    }

    private static void pitchAndNote() {
        CombCylinder box = new CombCylinder();
        box.tooth(0, 200, 0);
        box.bell(26, 60);
        Check.same("pitch", box.pitch(0), 6000);
        Check.same("note", box.note(0), 60);
        Check.same("note of a bell", box.note(26), 60);
        box.tooth(1, 198, 0);
        box.lead(1, 0);
        Check.same("pitch 6040", box.pitch(1), 6040);
        Check.same("file to 6048", box.file(1, 't', 2), 6048);
        Check.same("note of 6048", box.note(1), 60);
        Check.same("file to 6052", box.file(1, 't', 1), 6052);
        Check.same("note of 6052", box.note(1), 61);
        box.lead(1, 1);
        Check.same("note of 6049", box.note(1), 60);
        box.tooth(2, 197, 0);
        box.file(2, 't', 2);
        box.file(2, 'r', 3);
        Check.same("pitch of 6050", box.pitch(2), 6050);
        Check.same("note of 6050", box.note(2), 61);
        for (int place : NO_PLACES) {
            Check.noIndex(box, "pitch of no place", () -> box.pitch(place));
            Check.noIndex(box, "note of no place", () -> box.note(place));
        }
        Check.noElement(box, "pitch of nothing", () -> box.pitch(3));
        Check.noElement(box, "note of nothing", () -> box.note(25));
    }

    private static void inTune() {
        CombCylinder box = new CombCylinder();
        box.tooth(0, 200, 0);
        Check.yes("6000 in tune", box.isInTune(0));
        box.file(0, 't', 1);
        Check.yes("6004 in tune", box.isInTune(0));
        box.file(0, 't', 1);
        Check.no("6008 in tune", box.isInTune(0));
        box.lead(0, 1);
        Check.yes("6005 in tune", box.isInTune(0));
        box.tooth(0, 200, 0);
        box.file(0, 'r', 1);
        Check.no("5994 in tune", box.isInTune(0));
        box.tooth(0, 200, 0);
        box.file(0, 't', 1);
        box.lead(0, 3);
        Check.yes("5995 in tune", box.isInTune(0));
        box.lead(0, -1);
        box.file(0, 't', 1);
        Check.yes("6002 in tune", box.isInTune(0));
        box.tooth(1, 195, 0);
        Check.yes("6100 in tune", box.isInTune(1));
        box.tooth(1, 196, 0);
        Check.no("6080 in tune", box.isInTune(1));
        box.tooth(2, 200, 0);
        box.file(2, 't', 3);
        box.lead(2, 2);
        Check.no("6006 in tune", box.isInTune(2));
        box.bell(24, 7);
        Check.yes("bell in tune", box.isInTune(24));
        for (int place : NO_PLACES) {
            Check.noIndex(box, "isInTune of no place", () -> box.isInTune(place));
        }
        Check.noElement(box, "isInTune of nothing", () -> box.isInTune(3));
    }

    private static void file() {
        CombCylinder box = new CombCylinder();
        box.tooth(0, 200, 0);
        box.bell(24, 60);
        Check.same("tip", box.file(0, 't', 2), 6008);
        Check.same("root", box.file(0, 'r', 3), 5990);
        Check.same("steel", box.steel(0), 95);
        Check.notDone(box, "file 56", () -> box.file(0, 't', 56));
        Check.same("file 55", box.file(0, 't', 55), 6210);
        Check.same("steel left", box.steel(0), 40);
        Check.notDone(box, "file 1 more", () -> box.file(0, 'r', 1));
        box.tooth(1, 200, 0);
        Check.same("file 60 at once", box.file(1, 'r', 60), 5640);
        for (int place : NO_COMB) {
            Check.noIndex(box, "file at no place", () -> box.file(place, 'x', 0));
        }
        for (char where : new char[] {'T', 'R', 'x', '-', 0, 0xffff}) {
            Check.wrongNumber(box, "file at no end", () -> box.file(0, where, 1));
            Check.wrongNumber(box, "file nothing at no end", () -> box.file(5, where, 1));
        }
        for (int by : new int[] {0, -1, 61, Integer.MIN_VALUE, Integer.MAX_VALUE}) {
            Check.wrongNumber(box, "file by " + by, () -> box.file(0, 't', by));
            Check.wrongNumber(box, "file nothing by " + by, () -> box.file(5, 'r', by));
        }
        Check.noElement(box, "file nothing", () -> box.file(5, 't', 60));
        Boxes.breakTooth(box, 1);
        Check.notDone(box, "file a broken one", () -> box.file(1, 't', 1));
        box.tooth(2, 200, 0);
        Boxes.breakTooth(box, 2);
        Check.notDone(box, "file a broken one with steel", () -> box.file(2, 't', 1));
        Check.same("steel of it", box.steel(2), 100);
    }

    private static void lead() {
        CombCylinder box = new CombCylinder();
        box.tooth(0, 200, 0);
        box.bell(24, 60);
        Check.same("lead 4", box.lead(0, 4), 5988);
        Check.same("lead 0", box.lead(0, 0), 5988);
        Check.same("lead -4", box.lead(0, -4), 6000);
        Check.notDone(box, "lead -1 of 0", () -> box.lead(0, -1));
        Check.same("lead 50", box.lead(0, 50), 5850);
        Check.same("lead 50 more", box.lead(0, 50), 5700);
        Check.notDone(box, "lead 101", () -> box.lead(0, 1));
        Check.same("lead -50", box.lead(0, -50), 5850);
        Check.same("steel stays", box.steel(0), 100);
        for (int place : NO_COMB) {
            Check.noIndex(box, "lead at no place", () -> box.lead(place, 99));
        }
        for (int by : new int[] {51, -51, Integer.MIN_VALUE, Integer.MAX_VALUE}) {
            Check.wrongNumber(box, "lead by " + by, () -> box.lead(0, by));
            Check.wrongNumber(box, "lead to nothing by " + by, () -> box.lead(5, by));
        }
        Check.noElement(box, "lead to nothing", () -> box.lead(5, -1));
        Boxes.breakTooth(box, 0);
        Check.notDone(box, "lead to a broken one", () -> box.lead(0, 0));
        Check.same("pitch of it stays", box.pitch(0), 5850);
    }

    private static void steel() {
        CombCylinder box = new CombCylinder();
        box.tooth(23, 200, 0);
        box.bell(24, 60);
        Check.same("steel at first", box.steel(23), 100);
        box.file(23, 't', 7);
        box.file(23, 'r', 8);
        Check.same("steel filed", box.steel(23), 85);
        for (int place : NO_COMB) {
            Check.noIndex(box, "steel of no place", () -> box.steel(place));
        }
        Check.noElement(box, "steel of nothing", () -> box.steel(0));
    }

    private static void damper() {
        CombCylinder box = new CombCylinder();
        box.tooth(0, 200, 0);
        box.bell(27, 60);
        Check.same("damper at first", box.damper(0, 'w'), '-');
        Check.same("damper wire", box.damper(0, 'f'), 'w');
        Check.same("damper feather", box.damper(0, '-'), 'f');
        Check.same("damper none", box.damper(0, '-'), '-');
        Check.same("damper of a bell", box.damper(27, 'f'), '-');
        box.bend(27, true);
        Check.same("a straight one instead", box.damper(27, 'f'), 'f');
        Check.no("is straight", box.bend(27, false));
        box.bend(27, true);
        box.damper(27, '-');
        Check.same("bent one away", box.damping(27), 1);
        box.damper(27, 'w');
        Check.same("a new one is straight", box.damping(27), 1);
        for (int place : NO_PLACES) {
            Check.noIndex(box, "damper at no place", () -> box.damper(place, 'x'));
        }
        for (char kind : new char[] {'W', 'F', 'x', ' ', 0, 0xffff}) {
            Check.wrongNumber(box, "damper of no kind", () -> box.damper(0, kind));
            Check.wrongNumber(box, "damper of no kind to nothing", () -> box.damper(5, kind));
        }
        Check.noElement(box, "damper to nothing", () -> box.damper(5, 'w'));
        box.damper(0, 'f');
        Boxes.breakTooth(box, 0);
        Check.same("damper of a broken one", box.damper(0, 'w'), 'f');
    }

    private static void bend() {
        CombCylinder box = new CombCylinder();
        box.tooth(0, 200, 0);
        box.bell(27, 60);
        Check.notDone(box, "bend no damper", () -> box.bend(0, true));
        Check.notDone(box, "straighten no damper", () -> box.bend(27, false));
        box.damper(0, 'w');
        Check.no("bend", box.bend(0, true));
        Check.yes("bend again", box.bend(0, true));
        Check.yes("straighten", box.bend(0, false));
        Check.no("straighten again", box.bend(0, false));
        Check.same("straight", box.damping(0), 4);
        for (int place : NO_PLACES) {
            Check.noIndex(box, "bend at no place", () -> box.bend(place, true));
        }
        Check.noElement(box, "bend of nothing", () -> box.bend(5, true));
    }

    private static void damping() {
        CombCylinder box = new CombCylinder();
        box.tooth(0, 200, 0);
        box.bell(24, 60);
        Check.same("tooth without", box.damping(0), 8);
        Check.same("bell without", box.damping(24), 1);
        char[] kinds = {'w', 'f'};
        int[] straight = {4, 2};
        for (int i = 0; i < 2; i++) {
            box.damper(0, kinds[i]);
            box.damper(24, kinds[i]);
            Check.same("tooth " + kinds[i], box.damping(0), straight[i]);
            Check.same("bell " + kinds[i], box.damping(24), 1);
            box.bend(0, true);
            box.bend(24, true);
            Check.same("tooth bent " + kinds[i], box.damping(0), 2 * straight[i]);
            Check.same("bell bent " + kinds[i], box.damping(24), 2);
        }
        for (int place : NO_PLACES) {
            Check.noIndex(box, "damping of no place", () -> box.damping(place));
        }
        Check.noElement(box, "damping of nothing", () -> box.damping(5));
    }

    private static void broken() {
        CombCylinder box = new CombCylinder();
        box.tooth(0, 200, 0);
        box.bell(24, 60);
        Check.no("whole", box.isBroken(0));
        Boxes.breakTooth(box, 0);
        box.pin(0, 20, 24, 0);
        box.run();
        box.run();
        Check.yes("broken", box.isBroken(0));
        Check.no("a bell never", box.isBroken(24));
        Check.same("pitch of a broken one", box.pitch(0), 6000);
        Check.same("note of a broken one", box.note(0), 60);
        Check.yes("in tune though broken", box.isInTune(0));
        for (int place : NO_PLACES) {
            Check.noIndex(box, "isBroken of no place", () -> box.isBroken(place));
        }
        Check.noElement(box, "isBroken of nothing", () -> box.isBroken(5));
    }

    private static void replaced() {
        CombCylinder box = new CombCylinder();
        box.tooth(0, 200, 0);
        box.lead(0, 10);
        box.file(0, 't', 10);
        box.damper(0, 'w');
        box.bend(0, true);
        Boxes.breakTooth(box, 0);
        Check.yes("put again", box.tooth(0, 200, 0));
        Check.same("no lead, not filed", box.pitch(0), 6000);
        Check.same("steel whole", box.steel(0), 100);
        Check.same("no damper", box.damping(0), 8);
        Check.same("no damper kind", box.damper(0, 'f'), '-');
        Check.no("not broken", box.isBroken(0));
        Check.same("no strikes", box.strikes(0), 0);
        Check.same("pins stay", box.pins(0), 1);
        Check.yes("isTrue behind it", box.isTrue());
    }
}
