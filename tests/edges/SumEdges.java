/** The edges of coins, sums and exceptions: 'Terms', and promises 1 and 39 to 44. */
final class SumEdges {
    private SumEdges() {
    }

    static void all() {
        newBox();
        coins();
        takings();
        shares();
        means();
        checksum();
        isTrue();
        exceptions();
    }

    private static void newBox() {
        Edge.of("1", "`CombCylinder()`: Creates a box without voices, cylinder and sheets", () -> {
            CombCylinder box = new CombCylinder();
            for (int p = 0; p < 28; p++) {
                int place = p;
                Check.noElement(box, "no voice", () -> box.isBroken(place));
            }
            for (int air = 0; air < 6; air++) {
                Check.same("an empty sheet", box.erase(air), 0);
                Check.same("no pins", box.pins(air), 0);
            }
            Check.noState(box, "no cylinder", box::cement);
            Check.same("no cylinder before", box.cylinder(40, 1), 0);
            Check.same("no quarter", box.play(1), 0);
            Check.same("no coin", box.takings(1), 0);
            Check.yes("isTrue", box.isTrue());
        });
    }

    private static void coins() {
        Edge.of("Coins", "A coin is taken if it weighs 40 to 44 and is 20 to 22 wide", () -> {
            CombCylinder box = new CombCylinder();
            int taken = 0;
            for (int weight = 38; weight <= 46; weight++) {
                for (int width = 18; width <= 24; width++) {
                    boolean due = weight > 39 && weight < 45 && width > 19 && width < 23;
                    taken += due ? 1 : 0;
                    Check.same(weight + " by " + width, box.coin(weight, width) ? 1 : 0, due ? 1 : 0);
                    Check.same("taken", box.takings(1), taken);
                }
            }
            Check.same("15 of them", taken, 15);
        });
        Edge.of("39", "- `weight`: any number", () -> {
            CombCylinder box = new CombCylinder();
            for (int weight : new int[] {Integer.MIN_VALUE, -42, -1, 0, 39, 45, Integer.MAX_VALUE}) {
                Check.no("weight " + weight, box.coin(weight, 21));
            }
            Check.same("none was taken", box.takings(1), 0);
        });
        Edge.of("39", "- `width`: any number", () -> {
            CombCylinder box = new CombCylinder();
            for (int width : new int[] {Integer.MIN_VALUE, -21, -1, 0, 19, 23, Integer.MAX_VALUE}) {
                Check.no("width " + width, box.coin(42, width));
            }
            Check.same("none was taken", box.takings(1), 0);
        });
        Edge.of("39", "Returns whether it is taken", () -> {
            CombCylinder box = new CombCylinder();
            Check.yes("the least", box.coin(40, 20));
            Check.yes("the most", box.coin(44, 22));
            Check.no("too light", box.coin(39, 20));
            Check.no("too wide", box.coin(44, 23));
        });
    }

    private static CombCylinder withCoins(int coins) {
        CombCylinder box = new CombCylinder();
        for (int i = 0; i < coins; i++) {
            box.coin(42, 21);
        }
        return box;
    }

    private static void takings() {
        Edge.of("Coins", "The takings are the coins that were taken times a price", () -> {
            int[] prices = {Integer.MIN_VALUE, -1073741825, -1073741824, -715827883, -715827882, -4294968, -1, 0, 1,
                4294968, 715827882, 715827883, 1073741823, 1073741824, Integer.MAX_VALUE};
            for (int coins : new int[] {0, 1, 2, 3, 4, 490}) {
                CombCylinder box = withCoins(coins);
                for (int price : prices) {
                    long all = Math.max(Integer.MIN_VALUE, Math.min(Integer.MAX_VALUE, (long) coins * price));
                    Check.same(coins + " at " + price, box.takings(price), all);
                }
            }
        });
        Edge.of("40", "- `price`: any number", () -> {
            CombCylinder box = withCoins(2);
            Check.same("the least that is not held", box.takings(-1073741824), Integer.MIN_VALUE);
            Check.same("the first that is held", box.takings(-1073741825), Integer.MIN_VALUE);
            Check.same("the last that is not held", box.takings(1073741823), 2147483646);
            Check.same("the first above", box.takings(1073741824), Integer.MAX_VALUE);
        });
        Edge.of("40", "Returns the takings", () -> {
            Check.same("without coins", withCoins(0).takings(Integer.MAX_VALUE), 0);
            Check.same("the least price", withCoins(1).takings(Integer.MIN_VALUE), Integer.MIN_VALUE);
            Check.same("the greatest price", withCoins(1).takings(Integer.MAX_VALUE), Integer.MAX_VALUE);
            Check.same("below zero", withCoins(3).takings(-7), -21);
        });
    }

    private static void shares() {
        Edge.of("41", "Returns their number divided by that of all that are not broken", () -> {
            CombCylinder box = new CombCylinder();
            int tuned = 0;
            for (int place = 0; place < 24; place++) {
                boolean isTuned = place % 3 == 1;
                box.tooth(place, isTuned ? 200 : 201, 0);
                tuned += isTuned ? 1 : 0;
                Check.same("of " + (place + 1), (double) box.inTuneShare(), (double) ((float) tuned / (place + 1f)));
            }
            for (int place = 24; place < 28; place++) {
                box.bell(place, 60);
            }
            Check.same("of all 28", (double) box.inTuneShare(), (double) ((float) (tuned + 4) / 28f));
            Boxes.breakTooth(box, 1);
            Check.same("a broken one aside", (double) box.inTuneShare(), (double) ((float) (tuned + 3) / 27f));
        });
        Edge.of("41", "Throws `ArithmeticException` if there are none", () -> {
            Twins.refuses("no voice", Boxes::empty, ArithmeticException.class, CombCylinder::inTuneShare);
            Twins.refuses("broken ones", box -> Boxes.breakAll(box, 2, 40, 1),
                    ArithmeticException.class, CombCylinder::inTuneShare);
            CombCylinder box = new CombCylinder();
            box.tooth(0, 201, 0);
            Check.same("one out of tune", box.inTuneShare(), 0.0);
            box.tooth(0, 200, 0);
            Check.same("one in tune", box.inTuneShare(), 1.0);
        });
    }

    private static void means() {
        Edge.of("42", "Returns the bits, as Double.doubleToLongBits tells them, of the sum divided by", () -> {
            CombCylinder box = new CombCylinder();
            Check.same("0 divided by 0", box.meanOffBits(), Double.doubleToLongBits(0.0 / 0.0));
            box.bell(24, 60);
            Check.same("0 divided by 1", box.meanOffBits(), Double.doubleToLongBits(0.0));
            int sum = 0;
            for (int place = 0; place < 24; place++) {
                box.tooth(place, 200, 0);
                box.lead(place, 50 - place);
                int pitch = 6000 - 3 * (50 - place);
                sum += Math.abs(pitch - (pitch + 50) / 100 * 100);
                Check.same("with " + place, box.meanOffBits(), Double.doubleToLongBits((double) sum / (place + 2.0)));
            }
            Boxes.breakTooth(box, 0);
            Check.same("a broken one aside", box.meanOffBits(), Double.doubleToLongBits((sum - 50) / 24.0));
            int[][] small = {{1, 1, 1}, {2, 2, 2}, {1, 0, 4}, {2, 1, 5}};
            for (int[] m : small) {
                CombCylinder few = new CombCylinder();
                few.tooth(0, 200, 0);
                few.file(0, 't', m[0]);
                few.lead(0, m[1]);
                for (int bells = 0; bells < 4; bells++) {
                    Check.same(m[2] + " by " + (1 + bells), few.meanOffBits(),
                            Double.doubleToLongBits((double) m[2] / (1.0 + bells)));
                    few.bell(24 + bells, 60);
                }
            }
            CombCylinder broken = Boxes.broken(2, 40, 1);
            Check.same("broken ones alone", broken.meanOffBits(), Double.doubleToLongBits(0.0 / 0.0));
        });
    }

    private static long sum(long... parts) {
        long all = 7;
        for (long part : parts) {
            all = 31 * all + part;
        }
        return all;
    }

    private static void checksum() {
        Edge.of("43", "Returns 7 at first, then for each voice", () -> {
            CombCylinder box = new CombCylinder();
            Check.same("nothing", box.checksum(), sum(0));
            box.wind(20);
            Check.same("a full spring", box.checksum(), sum(80));
            box.bell(27, 120);
            box.tooth(0, 400, 0);
            box.bell(24, 1);
            box.tooth(23, 100, 0);
            Check.same("by places", box.checksum(), sum(2000, 0, 8000, 0, 100, 0, 12000, 0, 80));
            box.cylinder(600, 6);
            int[][] pins = {{5, 0, 0, -2}, {0, 599, 27, 2}, {0, 599, 0, -1}, {0, 0, 26, 1}, {5, 599, 1, 0}, {1, 3, 3, 0}};
            for (int[] p : pins) {
                box.pin(p[0], p[1], p[2], p[3]);
            }
            Check.same("by airs, by ticks, by places", box.checksum(), sum(2000, 0, 8000, 0, 100, 0, 12000, 0,
                    0, 26, 1, 599, 0, -1, 599, 27, 2, 3, 3, 0, 0, 0, -2, 599, 1, 0, 80));
            box.play(1);
            Check.same("strikes", box.checksum(), sum(2000, 1, 8000, 0, 100, 0, 12000, 1,
                    0, 26, 1, 599, 0, -1, 599, 27, 2, 3, 3, 0, 0, 0, -2, 599, 1, 0, 79));
        });
    }

    private static void isTrue() {
        Edge.of("44", "Returns whether all of it holds", () -> {
            CombCylinder box = new CombCylinder();
            Check.yes("a new one", box.isTrue());
            box.tooth(0, 200, 2);
            box.file(0, 't', 60);
            box.lead(0, 50);
            box.lead(0, 50);
            Check.yes("the least steel and the most lead", box.isTrue());
            box.lead(0, -50);
            box.lead(0, -50);
            box.cylinder(40, 6);
            Boxes.fill(box, 60);
            Check.yes("a full cylinder", box.isTrue());
            box.cylinder(40, 3);
            box.pin(0, 39, 0, -2);
            box.pin(1, 1, 0, -2);
            box.pin(2, 39, 0, 2);
            Check.yes("pins that are just not near", box.isTrue());
            Boxes.play(box, 5);
            box.tooth(10, 200, 0);
            box.run();
            box.tooth(0, 200, 2);
            Check.yes("the voice of played and run strikes is gone", box.isTrue());
            Boxes.play(box, 5);
            box.run();
            Check.yes("strikes of the next", box.isTrue());
        });
    }

    /** Each kind of refused call once more on a box that has much to lose; each edge's own test has the others. */
    private static void exceptions() {
        Edge.of("Exceptions", "A method that throws an exception changes nothing", () -> {
            for (Twins.Use made : new Twins.Use[] {Boxes::rich, Boxes::cemented, Boxes::full}) {
                Twins.refuses("cylinder", made, Twins.NUMBER, box -> box.cylinder(600, 7));
                Twins.refuses("tooth", made, Twins.NUMBER, box -> box.tooth(0, 400, 3));
                Twins.refuses("bell", made, Twins.NUMBER, box -> box.bell(24, 121));
                Twins.refuses("file", made, Twins.UNDONE, box -> box.file(2, 't', 60));
                Twins.refuses("lead", made, Twins.UNDONE, box -> box.lead(0, -50));
                Twins.refuses("damper", made, Twins.NUMBER, box -> box.damper(0, 'x'));
                Twins.refuses("bend", made, Twins.UNDONE, box -> box.bend(24, true));
                Twins.refuses("write", made, Twins.NUMBER, box -> box.write(0, 0, 60, 4));
                Twins.refuses("erase", made, Twins.INDEX, box -> box.erase(6));
                Twins.refuses("pin", made, Twins.UNDONE, box -> box.pin(0, 49, 0, 0));
                Twins.refuses("pull", made, Twins.NOTHING, box -> box.pull(0, 1, 0));
                Twins.refuses("arrange", made, Twins.INDEX, box -> box.arrange(3));
                Twins.refuses("shift", made, Twins.INDEX, box -> box.shift(3));
                Twins.refuses("wind", made, Twins.NUMBER, box -> box.wind(21));
                Twins.refuses("fan", made, Twins.NUMBER, box -> box.fan(51));
                Twins.refuses("play", made, Twins.NUMBER, box -> box.play(41));
            }
        });
        Edge.of("Exceptions", "If several exceptions apply, the exception listed first is thrown", () -> {
            Twins.refuses("no place, no length, no reach", Boxes::rich, Twins.INDEX, box -> box.tooth(28, 99, 3));
            Twins.refuses("no length, a bell's place", Boxes::rich, Twins.NUMBER, box -> box.tooth(24, 401, 0));
            Twins.refuses("no place, no note", Boxes::rich, Twins.INDEX, box -> box.bell(-1, 121));
            Twins.refuses("no note, a tooth's place", Boxes::rich, Twins.NUMBER, box -> box.bell(23, 121));
            Twins.refuses("no place of the comb, no end", Boxes::rich, Twins.INDEX, box -> box.file(24, 'x', 61));
            Twins.refuses("no end, nothing there", Boxes::rich, Twins.NUMBER, box -> box.file(5, 'x', 1));
            Twins.refuses("out of range, broken", Boxes::rich, Twins.NUMBER, box -> box.file(1, 't', 61));
            Twins.refuses("no place of the comb, out of range", Boxes::rich, Twins.INDEX, box -> box.lead(24, 51));
            Twins.refuses("out of range, nothing there", Boxes::rich, Twins.NUMBER, box -> box.lead(5, -51));
            Twins.refuses("out of range, broken", Boxes::rich, Twins.NUMBER, box -> box.lead(1, 51));
            Twins.refuses("no place, no kind", Boxes::rich, Twins.INDEX, box -> box.damper(28, 'x'));
            Twins.refuses("no kind, nothing there", Boxes::rich, Twins.NUMBER, box -> box.damper(25, 'x'));
            Twins.refuses("no air, no tick", Boxes::rich, Twins.INDEX, box -> box.write(6, 600, 0, 4));
            Twins.refuses("no cylinder, no air, no lean", Boxes::noCylinder, Twins.STATE, box -> box.pin(6, 0, 0, 3));
            Twins.refuses("no tick, no lean, cemented", Boxes::cemented, Twins.INDEX, box -> box.pin(0, 50, 0, 3));
            Twins.refuses("no lean, cemented", Boxes::cemented, Twins.NUMBER, box -> box.pin(0, 0, 0, 3));
            Twins.refuses("no cylinder, no air", Boxes::noCylinder, Twins.STATE, box -> box.pull(6, 0, 0));
            Twins.refuses("no place, cemented", Boxes::cemented, Twins.INDEX, box -> box.pull(0, 0, 28));
            Twins.refuses("none, cemented", Boxes::cemented, Twins.NOTHING, box -> box.pull(0, 1, 0));
            Twins.refuses("no cylinder, no air", Boxes::noCylinder, Twins.STATE, box -> box.arrange(6));
            Twins.refuses("no air, cemented", Boxes::cemented, Twins.INDEX, box -> box.arrange(3));
            Twins.refuses("no cylinder, no air", Boxes::noCylinder, Twins.STATE, box -> box.shift(6));
            Twins.refuses("no cylinder, no turns", Boxes::noCylinder, Twins.STATE, box -> box.play(0));
            Twins.refuses("no cylinder, no air", Boxes::noCylinder, Twins.STATE, box -> box.buzzes(6));
            Twins.refuses("no cylinder, no air", Boxes::noCylinder, Twins.STATE, box -> box.foreign(6));
            Twins.refuses("no cylinder, no tick", Boxes::noCylinder, Twins.STATE, box -> box.heard(0, -1));
            Twins.refuses("no cylinder, no place", Boxes::noCylinder, Twins.STATE, box -> box.lost(24));
            Twins.refuses("no cylinder, not lost", Boxes::noCylinder, Twins.STATE, box -> box.lost(0));
            Twins.refuses("no place, four lost", Boxes::fourLost, Twins.INDEX, box -> box.lost(24));
            Twins.refuses("four lost, not lost", Boxes::fourLost, Twins.UNDONE, box -> box.lost(9));
            Twins.refuses("no cylinder, no air", Boxes::noCylinder, Twins.STATE, box -> box.known(6));
        });
    }
}
