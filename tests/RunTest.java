/** Promise 34: the run, with the strikes, the leans and the falling pins that it brings. */
public final class RunTest {
    public static void main(String[] args) {
        withoutCylinder();
        strongAndWeak();
        steelAtTheEdge();
        leans();
        fallsOut();
        countsByRun();
        order();
        orderOfOneTick();
        firstOfTwo();
        orderAtTheBeginning();
        shiftAndReach();
        replacedVoice();
        Check.end("RunTest");
    }

    private static void withoutCylinder() {
        CombCylinder box = new CombCylinder();
        Check.noState(box, "run without a cylinder", box::run);
        box.cylinder(40, 1);
        Check.same("run without pins", box.run(), 0);
        box.pin(0, 5, 0, 0);
        Check.same("run without voices", box.run(), 0);
        Check.same("the pin does not lean", box.pull(0, 5, 0), 0);
    }

    private static void strongAndWeak() {
        CombCylinder box = new CombCylinder();
        box.tooth(0, 200, 0);
        box.tooth(1, 200, 0);
        box.file(1, 't', 41);
        box.bell(24, 60);
        box.cylinder(40, 1);
        for (int place : new int[] {0, 1, 24}) {
            box.pin(0, 5, place, -2);
        }
        box.cement();
        Check.same("two break", box.run(), 2);
        Check.yes("strong breaks", box.isBroken(0));
        Check.yes("weak breaks", box.isBroken(1));
        Check.no("a bell does not", box.isBroken(24));
        Check.same("strong at the third", box.strikes(0), 3);
        Check.same("weak at the first", box.strikes(1), 1);
        Check.same("a bell goes on", box.strikes(24), 3);
        Check.same("none is left", box.run(), 0);
        Check.same("a bell goes on and on", box.strikes(24), 5);
        Check.yes("isTrue", box.isTrue());
    }

    private static void steelAtTheEdge() {
        CombCylinder box = new CombCylinder();
        box.tooth(0, 200, 0);
        box.file(0, 'r', 40);
        box.cylinder(40, 1);
        box.pin(0, 5, 0, 2);
        Check.same("60 bears one", box.run(), 0);
        Check.same("its pin fell out", box.pins(0), 0);
        box.file(0, 'r', 1);
        box.pin(0, 5, 0, 2);
        Check.same("59 bears none", box.run(), 1);
        Check.same("its pin fell out with it", box.pins(0), 0);
    }

    private static void leans() {
        CombCylinder box = new CombCylinder();
        box.bell(24, 60);
        box.cylinder(40, 1);
        box.pin(0, 5, 24, -2);
        box.pin(0, 20, 24, 0);
        box.pin(0, 30, 24, 1);
        box.run();
        Check.same("leans 3 more", box.pull(0, 5, 24), 1);
        Check.noElement(box, "0 falls out at the third", () -> box.pull(0, 20, 24));
        Check.noElement(box, "1 falls out at the second", () -> box.pull(0, 30, 24));
        Check.same("their strikes", box.strikes(24), 8);
    }

    private static void fallsOut() {
        CombCylinder box = new CombCylinder();
        box.bell(24, 60);
        box.cylinder(40, 1);
        box.pin(0, 5, 24, 2);
        box.cement();
        box.run();
        Check.same("falls out, cement or not", box.pins(0), 0);
        Check.same("one strike", box.strikes(24), 1);
        Check.yes("still cemented", box.cement());
    }

    private static void countsByRun() {
        CombCylinder box = new CombCylinder();
        box.tooth(0, 200, 0);
        box.cylinder(40, 1);
        box.wind(1);
        box.pin(0, 5, 0, 1);
        box.play(4);
        Check.same("strikes before do not count", box.run(), 0);
        Check.same("two in this run", box.strikes(0), 6);
        box.pin(0, 5, 0, 1);
        Check.same("a run counts anew", box.run(), 0);
        box.pin(0, 5, 0, 0);
        Check.same("three in this run", box.run(), 1);
        Check.same("all of them", box.strikes(0), 11);
    }

    /** Four pins for one tooth: the three that come first lean, the fourth strikes no more. */
    private static void order() {
        CombCylinder box = new CombCylinder();
        box.tooth(0, 200, 0);
        box.cylinder(40, 1);
        box.pin(0, 1, 0, -2);
        box.pin(0, 10, 0, 0);
        box.pin(0, 39, 0, 1);
        box.pin(0, 20, 0, 0);
        Check.same("breaks in the first turn", box.run(), 1);
        Check.same("39 goes round to 0 and is first", box.pull(0, 39, 0), 2);
        Check.same("10 is next", box.pull(0, 10, 0), 1);
        Check.same("20 is third", box.pull(0, 20, 0), 1);
        Check.same("1 is at 39, and last", box.pull(0, 1, 0), -2);
    }

    private static void orderOfOneTick() {
        CombCylinder box = new CombCylinder();
        box.tooth(0, 200, 2);
        box.cylinder(40, 3);
        box.shift(1);
        box.pin(2, 10, 0, 0);
        box.pin(0, 8, 0, 2);
        box.pin(0, 12, 0, -2);
        box.pin(0, 10, 0, 0);
        Check.same("breaks in the first turn", box.run(), 1);
        Check.noElement(box, "air 0 tick 8 strikes", () -> box.pull(0, 8, 0));
        Check.same("air 0 tick 10 strikes", box.pull(0, 10, 0), 1);
        Check.same("air 0 tick 12 strikes", box.pull(0, 12, 0), -1);
        Check.same("air 2 does not", box.pull(2, 10, 0), 0);
    }

    /** A weak tooth breaks by the pin that comes first, so just this one leans. */
    private static void firstOfTwo() {
        int[][] firstAndOther = {
            {0, 8, 2, 0, 10, 0}, {0, 10, 0, 0, 12, -2}, {0, 12, -2, 2, 8, 2}, {2, 8, 2, 4, 10, 0},
            {4, 2, -2, 0, 1, 0}, {4, 0, 0, 0, 39, 2}, {4, 39, 2, 0, 2, 0}, {3, 1, 1, 1, 3, 0}};
        for (int[] f : firstAndOther) {
            CombCylinder box = new CombCylinder();
            box.tooth(0, 200, 2);
            box.file(0, 't', 60);
            box.cylinder(40, 5);
            box.shift(2);
            box.pin(f[3], f[4], 0, f[5]);
            box.pin(f[0], f[1], 0, f[2]);
            Check.same("a weak one breaks", box.run(), 1);
            Check.same("the other does not lean", box.pull(f[3], f[4], 0), f[5]);
            Check.same("the first leans, or is out", box.pins(f[0]), f[2] == 2 ? 0 : 1);
            if (f[2] < 2) {
                Check.same("it leans", box.pull(f[0], f[1], 0), f[2] + 1);
            }
        }
    }

    /** A pin that leans on into a later tick strikes just once in its turn. */
    private static void orderAtTheBeginning() {
        CombCylinder box = new CombCylinder();
        box.tooth(0, 200, 2);
        box.cylinder(40, 3);
        box.pin(0, 10, 0, 0);
        box.pin(2, 11, 0, 0);
        Check.same("breaks in the second turn", box.run(), 1);
        // First turn: 10, 11. Second turn: 11, 12, broken by the first of them.
        Check.same("air 0", box.pull(0, 10, 0), 2);
        Check.same("air 2", box.pull(2, 11, 0), 1);
        Check.same("three strikes", box.strikes(0), 3);
    }

    private static void shiftAndReach() {
        CombCylinder box = new CombCylinder();
        box.tooth(0, 200, 1);
        box.cylinder(40, 4);
        box.snail(true);
        box.wind(2);
        box.shift(3);
        box.pin(0, 5, 0, -2);
        box.pin(2, 5, 0, 2);
        box.pin(3, 20, 0, 2);
        Check.same("two strikes", box.run(), 0);
        Check.same("air 0 did not strike", box.pull(0, 5, 0), -2);
        Check.same("the others fell out", box.pins(2) + box.pins(3), 0);
        Check.same("the shift stays", box.shifted(), 3);
        Check.same("the spring stays", box.wind(1), 12);
        Check.same("no time", box.played(), 0.0);
    }

    private static void replacedVoice() {
        CombCylinder box = new CombCylinder();
        box.tooth(0, 200, 0);
        Boxes.breakTooth(box, 0);
        box.tooth(0, 200, 0);
        box.rake();
        Check.same("a new one bears two", box.run(), 1);
        Check.same("and breaks at the third", box.strikes(0), 3);
        box.pin(0, 20, 0, 0);
        Check.yes("isTrue", box.isTrue());
    }
}
