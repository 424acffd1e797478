import java.util.NoSuchElementException;

/** A musical box, from the steel of its teeth to the coins that are put in. */
public final class CombCylinder {
    private static final int TEETH = 24;
    private static final int PLACES = 28;
    private static final int LEAST_LENGTH = 100;
    private static final int MOST_LENGTH = 400;
    private static final int MOST_REACH = 2;
    private static final int FULL_STEEL = 100;
    private static final int LEAST_STEEL = 40;
    private static final int STRONG_STEEL = 60;
    private static final int MOST_FILED = 60;
    private static final int MOST_LEAD = 100;
    private static final int MOST_LEAD_AT_ONCE = 50;
    private static final int MOST_OFF = 5;
    private static final int SHEETS = 6;
    private static final int MOST_NOTES = 30;
    private static final int MOST_NUMBER = 120;
    private static final int PARTS = 4;
    private static final int LEAST_TICKS = 40;
    private static final int MOST_TICKS = 600;
    private static final int MOST_PINS = 60;
    private static final int MOST_LEAN = 2;
    private static final int MOST_QUARTERS = 80;
    private static final int MOST_WINDING = 20;
    private static final int MOST_FAN = 50;
    private static final int MOST_TURNS = 40;
    private static final int RUN_TURNS = 3;
    private static final int MOST_LOST = 3;
    private static final long LEAST_INT = -2147483648L;
    private static final long GREATEST_INT = 2147483647L;
    /** Stands for a pin's note where it has none: no voice in tune has a note below 0. */
    private static final int ASIDE = -1;
    /** What Double.doubleToLongBits tells of 0 divided by 0. */
    private static final long NAN_BITS = 0x7ff8000000000000L;

    private final Voice[] voices = new Voice[PLACES];
    private final Sheet[] sheets = new Sheet[SHEETS];
    private final Drum drum = new Drum();
    private final Spring spring = new Spring();
    private final Tuner tuner = new Tuner();
    private boolean hasSnail = false;
    private int coinsTaken = 0;
    /** All strikes that were ever played or run, so that isTrue has something to count against. */
    private int struckInAll = 0;
    /** Those of them that went away with a voice that was replaced. */
    private int struckOfGone = 0;

    public CombCylinder() {
        for (int place = 0; place < PLACES; place++) {
            voices[place] = new Voice();
        }
        for (int air = 0; air < SHEETS; air++) {
            sheets[air] = new Sheet();
        }
    }

    // Voices

    public boolean tooth(int place, int length, int reach)
            throws IndexOutOfBoundsException, IllegalArgumentException, UnsupportedOperationException {
        needIndex(place, PLACES);
        needNumber(length, LEAST_LENGTH, MOST_LENGTH);
        needNumber(reach, 0, MOST_REACH);
        if (place >= TEETH) {
            throw new UnsupportedOperationException("the place is for a bell");
        }
        return replaceVoice(place, true, length, reach);
    }

    public boolean bell(int place, int note)
            throws IndexOutOfBoundsException, IllegalArgumentException, UnsupportedOperationException {
        needIndex(place, PLACES);
        needNumber(note, 1, MOST_NUMBER);
        if (place < TEETH) {
            throw new UnsupportedOperationException("the place is for a tooth");
        }
        return replaceVoice(place, false, note, 0);
    }

    private boolean replaceVoice(int place, boolean isTooth, int size, int reach) {
        Voice voice = voices[place];
        boolean was = voice.isThere;
        struckOfGone += voice.struck;
        voice.put(isTooth, size, reach);
        return was;
    }

    public int pitch(int place) throws IndexOutOfBoundsException, NoSuchElementException {
        return voiceAt(place).hundredths();
    }

    public int note(int place) throws IndexOutOfBoundsException, NoSuchElementException {
        return voiceAt(place).nearestNote();
    }

    public boolean isInTune(int place) throws IndexOutOfBoundsException, NoSuchElementException {
        return voiceAt(place).isTuned();
    }

    public int file(int place, char where, int by)
            throws IndexOutOfBoundsException, IllegalArgumentException,
                   NoSuchElementException, UnsupportedOperationException {
        needIndex(place, TEETH);
        if (where != 't' && where != 'r') {
            throw new IllegalArgumentException("there is no such end");
        }
        needNumber(by, 1, MOST_FILED);
        Voice voice = voiceAt(place);
        needWhole(voice);
        if (voice.steelLeft() - by < LEAST_STEEL) {
            throw new UnsupportedOperationException("too little steel would be left");
        }
        if (where == 't') {
            voice.filedTip += by;
        } else {
            voice.filedRoot += by;
        }
        return voice.hundredths();
    }

    public int lead(int place, int by)
            throws IndexOutOfBoundsException, IllegalArgumentException,
                   NoSuchElementException, UnsupportedOperationException {
        needIndex(place, TEETH);
        needNumber(by, -MOST_LEAD_AT_ONCE, MOST_LEAD_AT_ONCE);
        Voice voice = voiceAt(place);
        needWhole(voice);
        if (!isWithin(voice.leadOn + by, 0, MOST_LEAD)) {
            throw new UnsupportedOperationException("the lead would be out of range");
        }
        voice.leadOn += by;
        return voice.hundredths();
    }

    public int steel(int place) throws IndexOutOfBoundsException, NoSuchElementException {
        needIndex(place, TEETH);
        return voiceAt(place).steelLeft();
    }

    public char damper(int place, char kind)
            throws IndexOutOfBoundsException, IllegalArgumentException, NoSuchElementException {
        needIndex(place, PLACES);
        if (kind != '-' && kind != 'w' && kind != 'f') {
            throw new IllegalArgumentException("there is no such kind");
        }
        Voice voice = voiceAt(place);
        char before = voice.damperKind;
        voice.damperKind = kind;
        voice.isBent = false;
        return before;
    }

    public boolean bend(int place, boolean is)
            throws IndexOutOfBoundsException, NoSuchElementException, UnsupportedOperationException {
        Voice voice = voiceAt(place);
        if (voice.damperKind == '-') {
            throw new UnsupportedOperationException("it has no damper");
        }
        boolean was = voice.isBent;
        voice.isBent = is;
        return was;
    }

    public int damping(int place) throws IndexOutOfBoundsException, NoSuchElementException {
        return voiceAt(place).stillAfter();
    }

    public int strikes(int place) throws IndexOutOfBoundsException, NoSuchElementException {
        return voiceAt(place).struck;
    }

    public boolean isBroken(int place) throws IndexOutOfBoundsException, NoSuchElementException {
        return voiceAt(place).broken;
    }

    // Airs

    public int write(int air, int tick, int note, int part)
            throws IndexOutOfBoundsException, IllegalArgumentException, IllegalStateException {
        needIndex(air, SHEETS);
        needNumber(tick, 0, MOST_TICKS - 1);
        needNumber(note, 1, MOST_NUMBER);
        needNumber(part, 0, PARTS - 1);
        Sheet sheet = sheets[air];
        if (sheet.size >= MOST_NOTES) {
            throw new IllegalStateException("the sheet is full");
        }
        sheet.add(tick, note, part);
        return sheet.size;
    }

    public int erase(int air) throws IndexOutOfBoundsException {
        needIndex(air, SHEETS);
        int before = sheets[air].size;
        sheets[air].size = 0;
        return before;
    }

    // Cylinder

    public int cylinder(int ticks, int airs) throws IllegalArgumentException {
        needNumber(ticks, LEAST_TICKS, MOST_TICKS);
        needNumber(airs, 1, SHEETS);
        int before = drum.size;
        drum.make(ticks, airs);
        return before;
    }

    public int pin(int air, int tick, int place, int lean)
            throws IllegalStateException, IndexOutOfBoundsException,
                   IllegalArgumentException, UnsupportedOperationException {
        needPinPlace(air, tick, place);
        needNumber(lean, -MOST_LEAN, MOST_LEAN);
        needSoft();
        if (drum.size >= MOST_PINS) {
            throw new UnsupportedOperationException("the cylinder is full");
        }
        if (drum.isNearAny(air, tick, place)) {
            throw new UnsupportedOperationException("it would come too near to another pin");
        }
        drum.add(air, tick, place, lean);
        return drum.size;
    }

    public int pull(int air, int tick, int place)
            throws IllegalStateException, IndexOutOfBoundsException,
                   NoSuchElementException, UnsupportedOperationException {
        needPinPlace(air, tick, place);
        int at = drum.find(air, tick, place);
        if (at < 0) {
            throw new NoSuchElementException("there is no such pin");
        }
        needSoft();
        int lean = drum.pins[at].lean;
        drum.remove(at);
        return lean;
    }

    public int pins(int air) throws IndexOutOfBoundsException {
        needIndex(air, SHEETS);
        int found = 0;
        for (int i = 0; i < drum.size; i++) {
            if (drum.pins[i].air == air) {
                found++;
            }
        }
        return found;
    }

    public int rake() throws IllegalStateException, UnsupportedOperationException {
        needCylinder();
        needSoft();
        int leaned = 0;
        for (int i = 0; i < drum.size; i++) {
            Pin pin = drum.pins[i];
            if (pin.lean != 0) {
                leaned++;
                pin.lean = 0;
            }
        }
        return leaned;
    }

    public boolean cement() throws IllegalStateException {
        needCylinder();
        boolean was = drum.isCemented;
        drum.isCemented = true;
        return was;
    }

    public int arrange(int air)
            throws IllegalStateException, IndexOutOfBoundsException, UnsupportedOperationException {
        needAir(air);
        needSoft();
        drum.removeAir(air);
        Sheet sheet = sheets[air];
        int leftOut = 0;
        for (int i = 0; i < sheet.size; i++) {
            if (!arrangeNote(air, sheet.ticks[i], sheet.numbers[i])) {
                leftOut++;
            }
        }
        return leftOut;
    }

    private boolean arrangeNote(int air, int tick, int number) {
        if (tick >= drum.ticks || drum.size >= MOST_PINS) {
            return false;
        }
        for (int place = 0; place < PLACES; place++) {
            Voice voice = voices[place];
            if (voice.sounds() && voice.isTuned() && voice.nearestNote() == number
                    && drum.isStill(air, tick, place, voice.stillAfter())
                    && !drum.isNearAny(air, tick, place)) {
                drum.add(air, tick, place, 0);
                return true;
            }
        }
        return false;
    }

    // Playing

    public int shift(int air) throws IllegalStateException, IndexOutOfBoundsException {
        needAir(air);
        int before = drum.shift;
        drum.shift = air;
        return before;
    }

    public int shifted() throws IllegalStateException {
        needCylinder();
        return drum.shift;
    }

    public boolean snail(boolean is) {
        boolean was = hasSnail;
        hasSnail = is;
        return was;
    }

    public int wind(int turns) throws IllegalArgumentException {
        needNumber(turns, 1, MOST_WINDING);
        spring.quarters = Math.min(MOST_QUARTERS, spring.quarters + 4 * turns);
        return spring.quarters;
    }

    public int fan(int fan) throws IllegalArgumentException {
        needNumber(fan, 1, MOST_FAN);
        int before = spring.fanSize;
        spring.fanSize = fan;
        return before;
    }

    public int speedBits() {
        return bitsOfFloat(spring.speed());
    }

    public int play(int turns) throws IllegalStateException, IllegalArgumentException {
        needCylinder();
        needNumber(turns, 1, MOST_TURNS);
        int struck = 0;
        for (int turn = 0; turn < turns && spring.quarters > 0; turn++) {
            struck += playTurn();
            spring.driveTurn(drum.ticks);
            if (hasSnail) {
                drum.shiftOn();
            }
        }
        struckInAll += struck;
        return struck;
    }

    private int playTurn() {
        int struck = 0;
        for (int i = 0; i < drum.size; i++) {
            Pin pin = drum.pins[i];
            if (doesStrike(pin, drum.shift)) {
                voices[pin.place].struck++;
                struck++;
            }
        }
        return struck;
    }

    private boolean doesStrike(Pin pin, int lyingOn) {
        Voice voice = voices[pin.place];
        return voice.sounds() && Math.abs(pin.air - lyingOn) <= voice.reach;
    }

    public double played() {
        return spring.time;
    }

    public int buzzes(int air) throws IllegalStateException, IndexOutOfBoundsException {
        needAir(air);
        int found = 0;
        for (int i = 0; i < drum.size; i++) {
            if (doesStrike(drum.pins[i], air) && doesBuzz(i, air)) {
                found++;
            }
        }
        return found;
    }

    private boolean doesBuzz(int at, int lyingOn) {
        Pin pin = drum.pins[at];
        int still = voices[pin.place].stillAfter();
        for (int i = 0; i < drum.size; i++) {
            Pin other = drum.pins[i];
            if (i != at && other.place == pin.place && doesStrike(other, lyingOn)
                    && drum.ticksAhead(other, pin) < still) {
                return true;
            }
        }
        return false;
    }

    public int foreign(int air) throws IllegalStateException, IndexOutOfBoundsException {
        needAir(air);
        int found = 0;
        for (int i = 0; i < drum.size; i++) {
            Pin pin = drum.pins[i];
            if (pin.air != air && doesStrike(pin, air)) {
                found++;
            }
        }
        return found;
    }

    public int heard(int air, int tick) throws IllegalStateException, IndexOutOfBoundsException {
        needAir(air);
        needIndex(tick, drum.ticks);
        int found = 0;
        for (int i = 0; i < drum.size; i++) {
            Pin pin = drum.pins[i];
            if (drum.strikeTick(pin) == tick && doesStrike(pin, air)) {
                found++;
            }
        }
        return found;
    }

    // The run

    public int run() throws IllegalStateException {
        needCylinder();
        for (int place = 0; place < PLACES; place++) {
            voices[place].struckInRun = 0;
        }
        int broken = 0;
        for (int turn = 0; turn < RUN_TURNS; turn++) {
            broken += runTurn();
        }
        return broken;
    }

    private int runTurn() {
        drum.sortForRun();
        int broken = 0;
        for (int i = 0; i < drum.size; i++) {
            Pin pin = drum.runOrder[i];
            if (doesStrike(pin, drum.shift)) {
                pin.lean++;
                struckInAll++;
                if (voices[pin.place].breaksWhenStruck()) {
                    broken++;
                }
            }
        }
        drum.dropFallen();
        return broken;
    }

    // Tunings

    public int tunings() throws IllegalStateException, UnsupportedOperationException {
        needCylinder();
        findTunings();
        return tuner.found;
    }

    public int lost(int place)
            throws IllegalStateException, IndexOutOfBoundsException,
                   UnsupportedOperationException, NoSuchElementException {
        needCylinder();
        needIndex(place, TEETH);
        findTunings();
        int which = tuner.whichLost(place);
        if (which < 0 || tuner.found == 0) {
            throw new NoSuchElementException("it is not lost, or there is no tuning");
        }
        return tuner.first[which];
    }

    private void findTunings() {
        tuner.lostCount = 0;
        for (int place = 0; place < TEETH; place++) {
            if (voices[place].isThere && voices[place].broken && drum.firstPinFor(place) >= 0) {
                if (tuner.lostCount >= MOST_LOST) {
                    throw new UnsupportedOperationException("too many teeth are lost");
                }
                tuner.lostPlaces[tuner.lostCount] = place;
                tuner.lostCount++;
            }
        }
        for (int place = 0; place < PLACES; place++) {
            tuner.given[place] = knownNote(voices[place]);
        }
        tuner.search(drum, sheets);
    }

    /** The note by which pins of this voice are known; a broken one has none. */
    private static int knownNote(Voice voice) {
        return voice.sounds() && voice.isTuned() ? voice.nearestNote() : ASIDE;
    }

    // Knowing

    public int known(int air)
            throws IllegalStateException, IndexOutOfBoundsException, NoSuchElementException {
        needAir(air);
        int best = -1;
        int most = 0;
        for (int s = 0; s < SHEETS; s++) {
            int onSheet = pinsOnSheet(air, sheets[s]);
            if (onSheet > most) {
                most = onSheet;
                best = s;
            }
        }
        if (best < 0) {
            throw new NoSuchElementException("no pin is on any sheet");
        }
        return best;
    }

    private int pinsOnSheet(int air, Sheet sheet) {
        int onSheet = 0;
        for (int i = 0; i < drum.size; i++) {
            Pin pin = drum.pins[i];
            if (pin.air == air && sheet.howOften(pin.tick, knownNote(voices[pin.place])) > 0) {
                onSheet++;
            }
        }
        return onSheet;
    }

    // Coins

    public boolean coin(int weight, int width) {
        boolean taken = isWithin(weight, 40, 44) && isWithin(width, 20, 22);
        if (taken) {
            coinsTaken++;
        }
        return taken;
    }

    public int takings(int price) {
        long all = (long) coinsTaken * (long) price;
        return (int) Math.max(LEAST_INT, Math.min(GREATEST_INT, all));
    }

    // Sums over the box

    public float inTuneShare() throws ArithmeticException {
        int tuned = 0;
        int sounding = 0;
        for (int place = 0; place < PLACES; place++) {
            if (voices[place].sounds()) {
                sounding++;
                if (voices[place].isTuned()) {
                    tuned++;
                }
            }
        }
        if (sounding == 0) {
            throw new ArithmeticException("there are no voices that are not broken");
        }
        return (float) tuned / (float) sounding;
    }

    public long meanOffBits() {
        int off = 0;
        int sounding = 0;
        for (int place = 0; place < PLACES; place++) {
            if (voices[place].sounds()) {
                sounding++;
                off += voices[place].howFarOff();
            }
        }
        return sounding == 0 ? NAN_BITS : bitsOfDouble((double) off / (double) sounding);
    }

    public long checksum() {
        long sum = 7;
        for (int place = 0; place < PLACES; place++) {
            Voice voice = voices[place];
            if (voice.isThere) {
                sum = 31 * sum + voice.hundredths();
                sum = 31 * sum + voice.struck;
            }
        }
        for (int i = 0; i < drum.size; i++) {
            Pin pin = drum.pins[i];
            sum = 31 * sum + pin.tick;
            sum = 31 * sum + pin.place;
            sum = 31 * sum + pin.lean;
        }
        return 31 * sum + spring.quarters;
    }

    public boolean isTrue() {
        int counted = struckOfGone;
        for (int place = 0; place < PLACES; place++) {
            Voice voice = voices[place];
            counted += voice.struck;
            if (!isWithin(voice.steelLeft(), LEAST_STEEL, FULL_STEEL)
                    || !isWithin(voice.leadOn, 0, MOST_LEAD)) {
                return false;
            }
        }
        return counted == struckInAll && !drum.hasNearPins();
    }

    // What several methods need

    private static boolean isWithin(int number, int least, int most) {
        return number >= least && number <= most;
    }

    private static void needNumber(int number, int least, int most) {
        if (!isWithin(number, least, most)) {
            throw new IllegalArgumentException("a number is out of range");
        }
    }

    private static void needIndex(int index, int end) {
        if (index < 0 || index >= end) {
            throw new IndexOutOfBoundsException("there is no such place, air or tick");
        }
    }

    private static void needWhole(Voice voice) {
        if (voice.broken) {
            throw new UnsupportedOperationException("it is broken");
        }
    }

    private Voice voiceAt(int place) {
        needIndex(place, PLACES);
        Voice voice = voices[place];
        if (!voice.isThere) {
            throw new NoSuchElementException("nothing is there");
        }
        return voice;
    }

    private void needCylinder() {
        if (drum.ticks == 0) {
            throw new IllegalStateException("there is no cylinder");
        }
    }

    private void needAir(int air) {
        needCylinder();
        needIndex(air, drum.airs);
    }

    private void needPinPlace(int air, int tick, int place) {
        needAir(air);
        needIndex(tick, drum.ticks);
        needIndex(place, PLACES);
    }

    private void needSoft() {
        if (drum.isCemented) {
            throw new UnsupportedOperationException("it is cemented");
        }
    }

    /** The bits of a float that is 0, or above 0 and of full precision, as all speeds are. */
    private static int bitsOfFloat(float value) {
        if (!(value > 0f)) {
            return 0;
        }
        float part = value;
        int exponent = 127;
        for (int i = 0; i < 127 && part >= 2f; i++) {
            part = part / 2f;
            exponent++;
        }
        for (int i = 0; i < 126 && part < 1f; i++) {
            part = part * 2f;
            exponent--;
        }
        return (exponent << 23) | (int) ((part - 1f) * 8388608f);
    }

    /** The bits of a double that is 0, or above 0 and of full precision, as all means are. */
    private static long bitsOfDouble(double value) {
        if (!(value > 0.0)) {
            return 0L;
        }
        double part = value;
        long exponent = 1023L;
        for (int i = 0; i < 1023 && part >= 2.0; i++) {
            part = part / 2.0;
            exponent++;
        }
        for (int i = 0; i < 1022 && part < 1.0; i++) {
            part = part * 2.0;
            exponent--;
        }
        return (exponent << 52) | (long) ((part - 1.0) * 4503599627370496.0);
    }

    /** A tooth or a bell, or the room for one. */
    private static final class Voice {
        boolean isThere = false;
        boolean isTooth = false;
        /** The length of a tooth, the note of a bell. */
        int size = 0;
        int reach = 0;
        int filedTip = 0;
        int filedRoot = 0;
        int leadOn = 0;
        char damperKind = '-';
        boolean isBent = false;
        boolean broken = false;
        int struck = 0;
        int struckInRun = 0;

        void put(boolean tooth, int newSize, int newReach) {
            isThere = true;
            isTooth = tooth;
            size = newSize;
            reach = newReach;
            filedTip = 0;
            filedRoot = 0;
            leadOn = 0;
            damperKind = '-';
            isBent = false;
            broken = false;
            struck = 0;
            struckInRun = 0;
        }

        boolean sounds() {
            return isThere && !broken;
        }

        int steelLeft() {
            return FULL_STEEL - filedTip - filedRoot;
        }

        int hundredths() {
            if (!isTooth) {
                return 100 * size;
            }
            return 10000 - 20 * size + 4 * filedTip - 6 * filedRoot - 3 * leadOn - struck / 50;
        }

        int nearestNote() {
            return (hundredths() + 50) / 100;
        }

        int howFarOff() {
            return Math.abs(hundredths() - 100 * nearestNote());
        }

        boolean isTuned() {
            return howFarOff() <= MOST_OFF;
        }

        int stillAfter() {
            int ticks = 8;
            if (!isTooth) {
                ticks = 1;
            } else if (damperKind == 'w') {
                ticks = 4;
            } else if (damperKind == 'f') {
                ticks = 2;
            }
            return isBent ? 2 * ticks : ticks;
        }

        boolean breaksWhenStruck() {
            struck++;
            struckInRun++;
            int bears = steelLeft() < STRONG_STEEL ? 1 : 3;
            broken = isTooth && struckInRun >= bears;
            return broken;
        }
    }

    /** The notes of an air, kept in the order in which it is arranged. */
    private static final class Sheet {
        final int[] ticks = new int[MOST_NOTES];
        final int[] parts = new int[MOST_NOTES];
        final int[] numbers = new int[MOST_NOTES];
        int size = 0;

        void add(int tick, int number, int part) {
            if (size >= MOST_NOTES) {
                return;
            }
            int at = size;
            while (at > 0 && isBefore(tick, part, number, at - 1)) {
                ticks[at] = ticks[at - 1];
                parts[at] = parts[at - 1];
                numbers[at] = numbers[at - 1];
                at--;
            }
            ticks[at] = tick;
            parts[at] = part;
            numbers[at] = number;
            size++;
        }

        private boolean isBefore(int tick, int part, int number, int at) {
            if (tick != ticks[at]) {
                return tick < ticks[at];
            }
            if (part != parts[at]) {
                return part < parts[at];
            }
            return number < numbers[at];
        }

        int howOften(int tick, int number) {
            int often = 0;
            for (int i = 0; i < size; i++) {
                if (ticks[i] == tick && numbers[i] == number) {
                    often++;
                }
            }
            return often;
        }

        /** The least number at this tick that is above another one, or ASIDE if there is none. */
        int nextNumber(int tick, int above) {
            int next = ASIDE;
            for (int i = 0; i < size; i++) {
                if (ticks[i] == tick && numbers[i] > above && (next == ASIDE || numbers[i] < next)) {
                    next = numbers[i];
                }
            }
            return next;
        }
    }

    /** A pin of the cylinder. */
    private static final class Pin {
        int air = 0;
        int tick = 0;
        int place = 0;
        int lean = 0;
        /** Where it comes by airs, then by ticks, then by places. */
        int rank = 0;
        /** Where it comes in a turn of the run. */
        int runRank = 0;
    }

    /** The cylinder with its pins by airs, then by ticks, then by places. */
    private static final class Drum {
        /** 0 as long as there is no cylinder. */
        int ticks = 0;
        int airs = 0;
        int shift = 0;
        boolean isCemented = false;
        int size = 0;
        final Pin[] pins = new Pin[MOST_PINS];
        final Pin[] runOrder = new Pin[MOST_PINS];

        Drum() {
            for (int i = 0; i < MOST_PINS; i++) {
                Pin pin = new Pin();
                pins[i] = pin;
                runOrder[i] = pin;
            }
        }

        void make(int newTicks, int newAirs) {
            ticks = newTicks;
            airs = newAirs;
            shift = 0;
            isCemented = false;
            size = 0;
        }

        void shiftOn() {
            shift = shift + 1 < airs ? shift + 1 : 0;
        }

        void add(int air, int tick, int place, int lean) {
            if (size >= MOST_PINS) {
                return;
            }
            // Behind the last pin lies a spare one: no pin is made as the box is used.
            Pin pin = pins[size];
            pin.air = air;
            pin.tick = tick;
            pin.place = place;
            pin.lean = lean;
            pin.rank = (air * MOST_TICKS + tick) * PLACES + place;
            int at = size;
            while (at > 0 && pins[at - 1].rank > pin.rank) {
                pins[at] = pins[at - 1];
                at--;
            }
            pins[at] = pin;
            size++;
        }

        void remove(int at) {
            if (at < 0 || at >= size) {
                return;
            }
            Pin spare = pins[at];
            for (int i = at + 1; i < size; i++) {
                pins[i - 1] = pins[i];
            }
            size--;
            pins[size] = spare;
        }

        void removeAir(int air) {
            for (int i = size - 1; i >= 0; i--) {
                if (pins[i].air == air) {
                    remove(i);
                }
            }
        }

        void dropFallen() {
            for (int i = size - 1; i >= 0; i--) {
                if (pins[i].lean > MOST_LEAN) {
                    remove(i);
                }
            }
        }

        int find(int air, int tick, int place) {
            for (int i = 0; i < size; i++) {
                if (pins[i].air == air && pins[i].tick == tick && pins[i].place == place) {
                    return i;
                }
            }
            return -1;
        }

        int firstPinFor(int place) {
            for (int i = 0; i < size; i++) {
                if (pins[i].place == place) {
                    return i;
                }
            }
            return -1;
        }

        /** How far two ticks are apart by the shorter way round. */
        private int apart(int tick, int other) {
            int way = Math.abs(tick - other);
            return Math.min(way, ticks - way);
        }

        private boolean isNear(Pin pin, int air, int tick, int place) {
            return pin.place == place && Math.abs(pin.air - air) <= 1 && apart(pin.tick, tick) <= 1;
        }

        boolean isNearAny(int air, int tick, int place) {
            for (int i = 0; i < size; i++) {
                if (isNear(pins[i], air, tick, place)) {
                    return true;
                }
            }
            return false;
        }

        boolean hasNearPins() {
            for (int i = 0; i < size; i++) {
                for (int j = 0; j < i; j++) {
                    if (isNear(pins[j], pins[i].air, pins[i].tick, pins[i].place)) {
                        return true;
                    }
                }
            }
            return false;
        }

        /** Whether the other pins of the air leave the voice the ticks that it needs. */
        boolean isStill(int air, int tick, int place, int needed) {
            for (int i = 0; i < size; i++) {
                Pin pin = pins[i];
                if (pin.air == air && pin.place == place && apart(pin.tick, tick) < needed) {
                    return false;
                }
            }
            return true;
        }

        private int goneRound(int tick) {
            if (tick < 0) {
                return tick + ticks;
            }
            return tick >= ticks ? tick - ticks : tick;
        }

        int strikeTick(Pin pin) {
            return goneRound(pin.tick + pin.lean);
        }

        /** How many ticks ahead of a pin another one strikes. */
        int ticksAhead(Pin other, Pin pin) {
            return goneRound(strikeTick(pin) - strikeTick(other));
        }

        /** Sorted ahead of the turn, as leans that grow in it do not move its strikes. */
        void sortForRun() {
            for (int i = 0; i < size; i++) {
                Pin pin = pins[i];
                pin.runRank = rankInTurn(pin);
                int at = i;
                while (at > 0 && runOrder[at - 1].runRank > pin.runRank) {
                    runOrder[at] = runOrder[at - 1];
                    at--;
                }
                runOrder[at] = pin;
            }
        }

        private int rankInTurn(Pin pin) {
            return ((strikeTick(pin) * PLACES + pin.place) * SHEETS + pin.air) * MOST_TICKS + pin.tick;
        }
    }

    /** The spring, and the fan that holds it back. */
    private static final class Spring {
        int quarters = 0;
        int fanSize = 10;
        double time = 0.0;

        float speed() {
            return (float) (10 + quarters) / (float) fanSize;
        }

        void driveTurn(int ticks) {
            time = time + (double) ((float) ticks / speed());
            quarters--;
        }
    }

    /** Looks for the notes that lost teeth may have had. */
    private static final class Tuner {
        int lostCount = 0;
        final int[] lostPlaces = new int[MOST_LOST];
        /** The note by which pins of a place are tried, ASIDE for none. */
        final int[] given = new int[PLACES];
        final int[][] choices = new int[MOST_LOST][MOST_NOTES];
        final int[] choiceCounts = new int[MOST_LOST];
        final int[] first = new int[MOST_LOST];
        int found = 0;

        int whichLost(int place) {
            for (int which = 0; which < lostCount; which++) {
                if (lostPlaces[which] == place) {
                    return which;
                }
            }
            return -1;
        }

        void search(Drum drum, Sheet[] sheets) {
            found = 0;
            for (int place = 0; place < PLACES; place++) {
                if (!fits(place, drum, sheets)) {
                    return;
                }
            }
            for (int which = 0; which < lostCount; which++) {
                findChoices(which, drum, sheets);
            }
            tryFrom(0, this, drum, sheets);
        }

        /** Whether each pin of a place has its note on its sheet, with all pins that have it too. */
        private boolean fits(int place, Drum drum, Sheet[] sheets) {
            int number = given[place];
            if (number == ASIDE) {
                return true;
            }
            for (int i = 0; i < drum.size; i++) {
                Pin pin = drum.pins[i];
                if (pin.place == place
                        && sheets[pin.air].howOften(pin.tick, number) < howOften(pin, drum)) {
                    return false;
                }
            }
            return true;
        }

        /** How many pins of this pin's air and tick have its note. */
        private int howOften(Pin pin, Drum drum) {
            int often = 0;
            for (int i = 0; i < drum.size; i++) {
                Pin other = drum.pins[i];
                if (other.air == pin.air && other.tick == pin.tick
                        && given[other.place] == given[pin.place]) {
                    often++;
                }
            }
            return often;
        }

        /** Keeps the notes that a lost tooth could have if it were the only one. */
        private void findChoices(int which, Drum drum, Sheet[] sheets) {
            choiceCounts[which] = 0;
            int place = lostPlaces[which];
            int at = drum.firstPinFor(place);
            if (at < 0) {
                return;
            }
            Pin pin = drum.pins[at];
            Sheet sheet = sheets[pin.air];
            int number = sheet.nextNumber(pin.tick, 0);
            for (int i = 0; i < MOST_NOTES && number != ASIDE; i++) {
                given[place] = number;
                if (fits(place, drum, sheets)) {
                    choices[which][choiceCounts[which]] = number;
                    choiceCounts[which]++;
                }
                number = sheet.nextNumber(pin.tick, number);
            }
            given[place] = ASIDE;
        }

        /** Gives this lost tooth and those behind it all of their choices; it goes 3 deep at most. */
        private static void tryFrom(int which, Tuner tuner, Drum drum, Sheet[] sheets) {
            if (which >= tuner.lostCount || which >= MOST_LOST) {
                tuner.keepTuning();
                return;
            }
            int place = tuner.lostPlaces[which];
            for (int i = 0; i < tuner.choiceCounts[which]; i++) {
                tuner.given[place] = tuner.choices[which][i];
                // Only lost teeth of the same note can take it from each other.
                if (!tuner.isTakenAhead(which) || tuner.fits(place, drum, sheets)) {
                    tryFrom(which + 1, tuner, drum, sheets);
                }
            }
            tuner.given[place] = ASIDE;
        }

        private boolean isTakenAhead(int which) {
            for (int ahead = 0; ahead < which; ahead++) {
                if (given[lostPlaces[ahead]] == given[lostPlaces[which]]) {
                    return true;
                }
            }
            return false;
        }

        private void keepTuning() {
            if (found == 0) {
                for (int which = 0; which < lostCount; which++) {
                    first[which] = given[lostPlaces[which]];
                }
            }
            found++;
        }
    }
}
