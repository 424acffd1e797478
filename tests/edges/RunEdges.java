import java.util.Arrays;

/** The edges of the run: 'Terms', and promise 34. */
final class RunEdges {
    private RunEdges() {
    }

    static void all() {
        turns();
        orderOfTicks();
        orderOfLikeOnes();
        eachTwo();
        orderAtTheBeginning();
        breaking();
        leaning();
        counting();
        promise();
    }

    /** A box with a tooth at 0 that has so much steel and reaches 2 airs. */
    private static CombCylinder withSteel(int steel) {
        CombCylinder box = new CombCylinder();
        box.tooth(0, 200, 2);
        if (steel < 100) {
            box.file(0, 't', 100 - steel);
        }
        return box;
    }

    private static void turns() {
        Edge.of("The run", "the cylinder runs three turns on its shift", () -> {
            CombCylinder box = new CombCylinder();
            box.bell(24, 60);
            box.cylinder(40, 3);
            for (int air = 0; air < 3; air++) {
                box.pin(air, 10 * air, 24, -2);
            }
            box.shift(1);
            box.snail(true);
            box.run();
            Check.same("three strikes", box.strikes(24), 3);
            Check.same("of the shift's pin", box.pull(1, 10, 24), 1);
            Check.same("not of the air ahead", box.pull(0, 0, 24), -2);
            Check.same("not of the air behind", box.pull(2, 20, 24), -2);
            Check.same("the shift stays", box.shifted(), 1);
        });
        Edge.of("The run", "without the spring", () -> {
            for (int wound = 0; wound <= 20; wound += 20) {
                CombCylinder box = new CombCylinder();
                box.bell(24, 60);
                box.cylinder(40, 1);
                box.pin(0, 0, 24, -2);
                if (wound > 0) {
                    box.wind(wound);
                }
                int speed = box.speedBits();
                box.run();
                Check.same("three strikes", box.strikes(24), 3);
                Check.same("no quarter is taken", box.speedBits(), speed);
                Check.same("no time", box.played(), 0.0);
            }
        });
    }

    /** Of two pins for a weak tooth, just the one that strikes first leans: {air, tick, lean} of it, then of the other. */
    private static void first(String what, int[]... rows) {
        for (int[] r : rows) {
            for (int turn = 0; turn < 2; turn++) {
                CombCylinder box = withSteel(59);
                box.cylinder(40, 3);
                box.shift(1);
                for (int i = 0; i < 2; i++) {
                    int at = 3 * ((i + turn) % 2);
                    box.pin(r[at], r[at + 1], 0, r[at + 2]);
                }
                Check.same(what + " breaks it", box.run(), 1);
                Check.same(what + " struck", box.pull(r[0], r[1], 0), r[2] + 1);
                Check.same(what + " did not", box.pull(r[3], r[4], 0), r[5]);
                Check.same(what + " strikes", box.strikes(0), 1);
            }
        }
    }

    private static void orderOfTicks() {
        Edge.of("The run", "by ticks at which pins strike", () -> {
            first("the earlier tick", new int[] {2, 5, 0, 0, 8, 0}, new int[] {0, 5, 0, 0, 39, 0});
            first("the earlier by its lean", new int[] {0, 7, -2, 0, 5, 1}, new int[] {1, 9, -1, 1, 7, 2});
            first("0 by going round", new int[] {0, 39, 1, 0, 1, 0}, new int[] {0, 38, 0, 0, 0, -1},
                new int[] {0, 37, 1, 0, 1, -2}, new int[] {2, 0, 0, 0, 2, -1});
        });
    }

    private static void orderOfLikeOnes() {
        Edge.of("The run", "of like ones by places", () -> {
            CombCylinder box = withSteel(59);
            box.tooth(23, 200, 0);
            box.bell(27, 60);
            box.cylinder(40, 1);
            for (int place : new int[] {27, 23, 0}) {
                box.pin(0, 5, place, -2);
            }
            Check.same("each place breaks by itself", box.run(), 2);
            Check.same("the first", box.pull(0, 5, 0), -1);
            Check.same("the next", box.pull(0, 5, 23), 1);
            Check.same("the bell", box.pull(0, 5, 27), 1);
        });
        Edge.of("The run", "then by airs", () ->
            first("the lower air", new int[] {0, 5, 0, 2, 5, 0}, new int[] {0, 6, -1, 1, 4, 1},
                new int[] {1, 7, -2, 2, 4, 1}, new int[] {0, 1, -1, 2, 39, 1}, new int[] {1, 2, -2, 2, 39, 1}));
        Edge.of("The run", "then by the ticks of the pins", () ->
            first("the lower tick", new int[] {0, 4, 1, 0, 6, -1}, new int[] {0, 5, 0, 0, 7, -2},
                new int[] {0, 0, 0, 0, 38, 2}, new int[] {0, 1, -1, 0, 39, 1}, new int[] {0, 2, -2, 0, 39, 1}));
    }

    /** Each two pins near the cylinder's end and its beginning, of each two airs in reach. */
    private static void eachTwo() {
        Edge.of("The run", "by ticks at which pins strike, of like ones by places, then by airs, then by the ticks", () -> {
            int[] ticks = {37, 38, 39, 0, 1, 2, 3, 4};
            for (int one = 0; one < 200; one++) {
                for (int other = 0; other < 200; other++) {
                    int[] a = {one % 5, ticks[one / 5 % 8], one / 40 - 2};
                    int[] b = {other % 5, ticks[other / 5 % 8], other / 40 - 2};
                    int round = Math.floorMod(a[1] - b[1], 40);
                    boolean isNear = Math.abs(a[0] - b[0]) <= 1 && (round <= 1 || round == 39);
                    if (!isNear && comesFirst(a, b)) {
                        firstOf(a, b);
                    }
                }
            }
        });
    }

    private static boolean comesFirst(int[] a, int[] b) {
        int[] one = {Math.floorMod(a[1] + a[2], 40), a[0], a[1]};
        int[] other = {Math.floorMod(b[1] + b[2], 40), b[0], b[1]};
        return Arrays.compare(one, other) < 0;
    }

    private static void firstOf(int[] a, int[] b) {
        CombCylinder box = withSteel(59);
        box.cylinder(40, 5);
        box.shift(2);
        box.pin(b[0], b[1], 0, b[2]);
        box.pin(a[0], a[1], 0, a[2]);
        box.run();
        String what = Arrays.toString(a) + " ahead of " + Arrays.toString(b);
        Check.same(what, box.pull(b[0], b[1], 0), b[2]);
        Check.same(what + ", which leans or is out", box.pins(a[0]), a[2] < 2 ? 1 : 0);
    }

    private static void orderAtTheBeginning() {
        Edge.of("The run", "as all that is at the beginning of the turn", () -> {
            CombCylinder box = withSteel(100);
            box.cylinder(40, 3);
            box.pin(0, 5, 0, -2);
            Check.same("one strike a turn", box.run(), 1);
            Check.same("three strikes", box.strikes(0), 3);
            // Turn 1: at 5 and at 39. Turn 2: the one went round to 0 and comes first.
            CombCylinder round = withSteel(100);
            round.cylinder(40, 3);
            round.pin(0, 39, 0, 0);
            round.pin(0, 5, 0, 0);
            Check.same("the third strike is in turn 2", round.run(), 1);
            Check.same("it is of 39", round.pull(0, 39, 0), 2);
            Check.same("5 struck once", round.pull(0, 5, 0), 1);
        });
    }

    private static void breaking() {
        Edge.of("The run", "A tooth with less than 60 of steel breaks at its first strike in the run", () -> {
            for (int steel = 40; steel <= 100; steel++) {
                CombCylinder box = withSteel(steel);
                box.cylinder(40, 1);
                box.pin(0, 5, 0, -2);
                Check.same("steel", box.steel(0), steel);
                Check.same("breaks with " + steel, box.run(), 1);
                Check.same("strikes with " + steel, box.strikes(0), steel < 60 ? 1 : 3);
            }
        });
        Edge.of("The run", "another one at the third", () -> {
            for (int lean = -2; lean <= 2; lean++) {
                CombCylinder box = withSteel(60);
                box.cylinder(40, 1);
                box.pin(0, 5, 0, lean);
                boolean breaks = lean <= 0;
                Check.same("leaning " + lean, box.run(), breaks ? 1 : 0);
                Check.same("broken", box.isBroken(0) ? 1 : 0, breaks ? 1 : 0);
                if (!breaks) {
                    box.pin(0, 5, 0, lean);
                    Check.same("a run counts anew", box.run(), 0);
                }
            }
            CombCylinder box = withSteel(60);
            box.cylinder(40, 1);
            box.pin(0, 5, 0, 2);
            box.pin(0, 15, 0, 2);
            Check.same("two strikes in a turn", box.run(), 0);
            box.pin(0, 5, 0, 2);
            box.pin(0, 15, 0, 2);
            box.pin(0, 25, 0, 2);
            Check.same("three strikes in a turn", box.run(), 1);
            Boxes.play(box, 3);
        });
        Edge.of("The run", "a bell never does", () -> {
            CombCylinder box = new CombCylinder();
            box.cylinder(40, 1);
            for (int place = 24; place < 28; place++) {
                box.bell(place, place);
                for (int i = 0; i < 15; i++) {
                    box.pin(0, 2 * i, place, -2);
                }
            }
            Check.same("180 strikes", box.run(), 0);
            for (int place = 24; place < 28; place++) {
                Check.same("of each", box.strikes(place), 45);
                Check.no("whole", box.isBroken(place));
            }
        });
    }

    private static void leaning() {
        Edge.of("The run", "By each strike, also the one that breaks a tooth, the pin leans 1 more", () -> {
            for (int lean = -2; lean <= 1; lean++) {
                CombCylinder weak = withSteel(40);
                weak.cylinder(40, 1);
                weak.pin(0, 5, 0, lean);
                weak.run();
                Check.same("by the breaking one, from " + lean, weak.pull(0, 5, 0), lean + 1);
            }
            CombCylinder strong = withSteel(100);
            strong.cylinder(40, 1);
            strong.pin(0, 5, 0, -1);
            strong.run();
            Check.yes("broken by the third", strong.isBroken(0));
            Check.same("from -1", strong.pull(0, 5, 0), 2);
        });
        Edge.of("The run", "one that would lean more than 2 falls out, cement or not", () -> {
            int[] strikes = {3, 3, 3, 2, 1};
            for (int lean = -2; lean <= 2; lean++) {
                for (boolean isCemented : new boolean[] {false, true}) {
                    CombCylinder box = new CombCylinder();
                    box.bell(24, 60);
                    box.cylinder(40, 1);
                    box.pin(0, 39, 24, lean);
                    if (isCemented) {
                        box.cement();
                    }
                    box.run();
                    Check.same("from " + lean, box.pins(0), lean < 0 ? 1 : 0);
                    Check.same("strikes from " + lean, box.strikes(24), strikes[lean + 2]);
                    Check.same("cemented", box.cement() ? 1 : 0, isCemented ? 1 : 0);
                }
            }
            CombCylinder weak = withSteel(59);
            weak.cylinder(40, 1);
            weak.pin(0, 5, 0, 2);
            weak.pin(0, 20, 0, 2);
            weak.run();
            Check.same("by the strike that breaks the tooth, the other not", weak.pins(0), 1);
            Check.same("the other stays", weak.pull(0, 20, 0), 2);
        });
    }

    private static void counting() {
        Edge.of("The run", "These strikes count as others", () -> {
            CombCylinder box = withSteel(100);
            box.cylinder(40, 1);
            box.pin(0, 5, 0, 1);
            Boxes.play(box, 48);
            Check.same("48 strikes", box.pitch(0), 6000);
            Check.same("none breaks", box.run(), 0);
            Check.same("50 strikes", box.strikes(0), 50);
            Check.same("the pitch", box.pitch(0), 5999);
            Check.yes("isTrue", box.isTrue());
        });
    }

    private static void promise() {
        Edge.of("34", "Returns how many teeth break", () -> {
            CombCylinder box = new CombCylinder();
            box.cylinder(40, 1);
            Check.same("no pins", box.run(), 0);
            for (int place = 0; place < 28; place++) {
                box.pin(0, 39, place, -2);
            }
            Check.same("no voices", box.run(), 0);
            for (int place = 0; place < 28; place++) {
                if (place < 24) {
                    box.tooth(place, 200, 0);
                } else {
                    box.bell(place, 60);
                }
            }
            Check.same("all teeth", box.run(), 24);
            Check.same("none is left", box.run(), 0);
            Check.yes("isTrue", box.isTrue());
        });
        Edge.of("34", "Throws `IllegalStateException` if there is no cylinder", () ->
            Twins.refuses("run", Boxes::noCylinder, Twins.STATE, CombCylinder::run));
    }
}
