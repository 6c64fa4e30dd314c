import java.util.Arrays;
import java.util.NoSuchElementException;

/** Bowls of glass on one spindle, the pieces played on them, and the hands that play. */
public final class GlassSpindle {
    /** None. */
    public static final int NONE = -1;

    private static final int BEATS = 200;
    private static final int BOWLS = 12;
    private static final int PAIRS = 8;
    private static final int SPEAKS = 4;
    private static final int NOTES = 24;
    private static final int LONGEST = 40;
    private static final int HARDEST = 9;
    private static final int SIGNS = 1000;
    private static final int MARKS = 4;
    private static final int TREADLES = 99;
    /** How many NOTES are fingered, BOWLS ground or ordered at most. */
    private static final int SEARCHED = 8;

    private static final int PLAIN = 0;
    private static final int SPARE = 3;

    private static final int TREADLE = 0;
    private static final int FINGERS = 1;
    private static final int REACH = 2;
    private static final int SOON = 3;
    private static final int DRY = 4;
    private static final int DIP = 5;
    private static final int WARM = 6;
    private static final int COOL = 7;
    private static final int CRACK = 8;
    private static final int ALONG = 9;
    private static final int GRIND = 10;
    private static final int SETTINGS = 11;
    private static final int[] SETTING_LEAST = {1, 1, 1, 0, 1, 1, 0, 0, 1, 0, 1};
    private static final int[] SETTING_MOST = {99, 3, 12, 9, 99, 20, 99, 99, 999, 999, 99};
    private static final int[] SETTING_UNTOLD = {10, 2, 4, 1, 12, 2, 3, 1, 5, 0, 1};

    private static final int TOO_SOON = 1;
    private static final int IS_CRACKED = 2;
    private static final int IS_DRY = 3;
    private static final int UNLAWFUL = 4;
    /** As UNLAWFUL, but by a law without speed: so it is at every treadle. */
    private static final int UNLAWFUL_EVER = 5;

    private static final int NO_FINGER = 1;
    private static final int BUSY = 2;
    private static final int CROSSES = 3;
    private static final int TOO_WIDE = 4;
    private static final int DRIES = 5;

    private static final int END = 0;
    private static final int BAD = 1;
    private static final int NAME = 2;
    private static final int WORD = 100;
    private static final int NUMBER = 1000;
    /** Slots of eight signs; a word's token is WORD and its slot. */
    private static final String WORDS = "bowl....tone....size....wall....rimmed..gilt....spare...pair....within..speak...set.....not.....and.....or......treadle.fingers.reach...soon....dry.....dip.....warm....cool....crack...along...grind...speed...press...heat....touch...";
    private static final int SLOT = 8;
    private static final String TOKEN_SIGNS = "()<=+-*;";
    private static final int W_BOWL = 100;
    private static final int W_TONE = 101;
    private static final int W_SIZE = 102;
    private static final int W_WALL = 103;
    private static final int W_RIMMED = 104;
    private static final int W_SPARE = 106;
    private static final int W_PAIR = 107;
    private static final int W_WITHIN = 108;
    private static final int W_SPEAK = 109;
    private static final int W_SET = 110;
    private static final int W_NOT = 111;
    private static final int W_AND = 112;
    private static final int W_OR = 113;
    private static final int W_TREADLE = 114;
    private static final int W_SPEED = 125;
    private static final int W_PRESS = 126;
    private static final int W_HEAT = 127;
    private static final int W_TOUCH = 128;

    private static final int MISPLACED = 1;
    private static final int UNKNOWN_NAME = 2;
    private static final int TOLD_BEFORE = 3;
    private static final int OUT_OF_BOUNDS = 4;
    private static final int TOO_MANY = 5;

    private final Tape tape;
    private final Reader reader;
    private final Setup setup;
    private final Setup draft;
    private final Piece piece;
    private final Setup[] markedSetups;
    private final Piece[] markedPieces;
    private final Warming warming;
    private final Hands hands;
    private final Voice voice;
    private final Fingering fingering;
    private final Grinding grinding;
    private final Ordering ordering;

    public GlassSpindle() {
        tape = new Tape();
        setup = new Setup();
        draft = new Setup();
        reader = new Reader(tape, draft);
        piece = new Piece();
        markedSetups = new Setup[MARKS];
        markedPieces = new Piece[MARKS];
        warming = new Warming(setup, piece);
        hands = new Hands(setup, piece);
        voice = new Voice(setup, piece, warming, hands);
        fingering = new Fingering(setup, piece, hands);
        grinding = new Grinding(setup);
        ordering = new Ordering(setup, piece);
    }

    public int feed(long a, long b, long c) {
        tape.addBytes(a);
        tape.addBytes(b);
        tape.addBytes(c);
        return tape.length;
    }

    public int spindle() {
        int fault = reader.read();
        tape.length = 0;
        if (fault == 0) {
            setup.copy(draft);
            piece.notes = 0;
            forgetAll();
        }
        return fault;
    }

    public int bowl(int bowl, int what) {
        if (!setup.hasBowl(bowl)) {
            return NONE;
        }
        switch (what) {
            case 0: return setup.tone[bowl];
            case 1: return setup.size[bowl];
            case 2: return setup.wall[bowl];
            case 3: return setup.kind[bowl];
            case 4: return setup.place[bowl];
            default: return NONE;
        }
    }

    public int note(int bowl, int from, int length, int press, int finger) {
        boolean good = setup.hasPlace(bowl) && piece.takes(from, length)
            && press >= 1 && press <= HARDEST && setup.hasFinger(finger);
        if (!good) {
            return NONE;
        }
        piece.add(bowl, from, length, press, finger);
        forgetPlaying();
        return piece.notes - 1;
    }

    public boolean drop() {
        if (piece.notes == 0) {
            return false;
        }
        piece.notes--;
        forgetPlaying();
        return true;
    }

    public boolean finger(int note, int finger) {
        if (!piece.has(note) || !setup.hasFinger(finger)) {
            return false;
        }
        piece.finger[note] = finger;
        voice.known = false;
        return true;
    }

    public int noteOf(int note, int what) {
        if (!piece.has(note)) {
            return NONE;
        }
        switch (what) {
            case 0: return piece.bowl[note];
            case 1: return piece.from[note];
            case 2: return piece.length[note];
            case 3: return piece.press[note];
            case 4: return piece.finger[note];
            default: return NONE;
        }
    }

    public int touched(int bowl, int beat) {
        return setup.hasBowl(bowl) && isBeat(beat) ? piece.pressOn(bowl, beat) : NONE;
    }

    public int warmth(int bowl, int beat) {
        warming.learn();
        return setup.hasBowl(bowl) && isBeat(beat) ? warming.heatOf(bowl, beat) : NONE;
    }

    public int cracked(int bowl) {
        warming.learn();
        return setup.hasBowl(bowl) ? warming.crackOf(bowl) : NONE;
    }

    public int why(int note, int beat) throws NoSuchElementException {
        if (!piece.lasts(note, beat)) {
            throw new NoSuchElementException("no such note lasts then");
        }
        return voice.reasonOf(note, beat);
    }

    public int speaks(int note) {
        return piece.has(note) ? voice.spokenBy(note) : NONE;
    }

    public int sounds(int beat) {
        return isBeat(beat) ? voice.speakingIn(beat) : NONE;
    }

    public int along(int beat) {
        return isBeat(beat) ? voice.ringingIn(beat) : NONE;
    }

    public int silence(int beat, int what) {
        int silent = isBeat(beat) ? voice.silentFrom(beat) : NONE;
        if (silent == NONE) {
            return NONE;
        }
        int whose = piece.firstIn(silent);
        switch (what) {
            case 0: return silent;
            case 1: return whose;
            case 2: return voice.reasonOf(whose, silent);
            default: return NONE;
        }
    }

    public int best(int what) {
        if (what != 0 && what != 1) {
            return NONE;
        }
        int most = 1;
        for (int treadle = 2; treadle <= TREADLES; treadle++) {
            if (voice.spokenAt(treadle) > voice.spokenAt(most)) {
                most = treadle;
            }
        }
        return what == 0 ? most : voice.spokenAt(most);
    }

    public int atTreadle(int treadle) {
        return treadle >= 1 && treadle <= TREADLES ? voice.spokenAt(treadle) : NONE;
    }

    public int wrong(int note) {
        return piece.has(note) ? hands.faultOf(piece.finger, note) : NONE;
    }

    public int judged() {
        for (int note = 0; note < piece.notes; note++) {
            if (hands.faultOf(piece.finger, note) != 0) {
                return note;
            }
        }
        return NONE;
    }

    public int lifts() {
        int sum = 0;
        for (int note = 0; note < piece.notes; note++) {
            sum += hands.liftsAt(piece.finger, note) ? 1 : 0;
        }
        return sum;
    }

    public int fewest() {
        return fingering.fewestLifts();
    }

    public int fingered(int note) {
        return fingering.fingerOf(note);
    }

    public int far() {
        return fingering.farthest();
    }

    public int beating(int pair) {
        return setup.hasPair(pair) ? setup.speedOf(pair) : NONE;
    }

    public int within() {
        int bits = 0;
        for (int pair = 0; pair < setup.pairs; pair++) {
            if (setup.speedOf(pair) <= setup.within[pair]) {
                bits |= 1 << pair;
            }
        }
        return bits;
    }

    public int ground() {
        return grinding.leastGlass();
    }

    public int groundOf(int bowl) throws NoSuchElementException {
        if (!setup.hasBowl(bowl) || grinding.leastGlass() == NONE) {
            throw new NoSuchElementException("no such bowl, or no grinding");
        }
        return grinding.stepOf(bowl);
    }

    public int spare(int bowl) {
        return setup.hasPlace(bowl) ? setup.nearestSpare(bowl) : NONE;
    }

    public boolean exchange(int bowl, int spare) {
        if (!setup.hasPlace(bowl) || !setup.hasBowl(spare) || setup.hasPlace(spare)) {
            return false;
        }
        setup.swap(bowl, spare);
        piece.rename(bowl, spare);
        forgetPlaying();
        return true;
    }

    public int moved() {
        int sum = 0;
        for (int note = 1; note < piece.notes; note++) {
            sum += Math.abs(hands.placeOf(note) - hands.placeOf(note - 1));
        }
        return sum;
    }

    public int order() {
        return ordering.leastMoved();
    }

    public int ordered(int place) {
        return ordering.bowlAt(place);
    }

    public boolean mark(int mark, boolean back) {
        if (mark < 0 || mark >= MARKS) {
            return false;
        }
        return back ? goBack(mark) : lay(mark);
    }

    public int count(int what) {
        if (what >= 5 && what < 5 + SETTINGS) {
            return setup.settings[what - 5];
        }
        switch (what) {
            case 0: return setup.bowls;
            case 1: return setup.places;
            case 2: return setup.pairs;
            case 3: return setup.speaks;
            case 4: return piece.notes;
            case 16: return tape.length;
            default: return NONE;
        }
    }

    private boolean lay(int mark) {
        if (markedSetups[mark] == null || markedPieces[mark] == null) {
            markedSetups[mark] = new Setup();
            markedPieces[mark] = new Piece();
        }
        markedSetups[mark].copy(setup);
        markedPieces[mark].copy(piece);
        return true;
    }

    private boolean goBack(int mark) {
        if (markedSetups[mark] == null || markedPieces[mark] == null) {
            return false;
        }
        setup.copy(markedSetups[mark]);
        piece.copy(markedPieces[mark]);
        forgetAll();
        return true;
    }

    /** What was reckoned out of NOTES and PLACES is stale once they change. */
    private void forgetPlaying() {
        warming.known = false;
        voice.known = false;
        fingering.known = false;
        ordering.known = false;
    }

    private void forgetAll() {
        forgetPlaying();
        grinding.known = false;
    }

    private static boolean isBeat(int beat) {
        return beat >= 0 && beat < BEATS;
    }

    /** The SPINDLE. */
    private static final class Setup {
        int bowls;
        int places;
        final int[] tone = new int[BOWLS];
        final int[] size = new int[BOWLS];
        final int[] wall = new int[BOWLS];
        final int[] kind = new int[BOWLS];
        final int[] place = new int[BOWLS];
        int pairs;
        final int[] first = new int[PAIRS];
        final int[] firstNumber = new int[PAIRS];
        final int[] second = new int[PAIRS];
        final int[] secondNumber = new int[PAIRS];
        final int[] within = new int[PAIRS];
        int speaks;
        /** Bits of the speaks that name speed. */
        int swift;
        /** The speaks' laws one behind the other, operands first: a NUMBER, or less 0 a token. */
        final int[] code = new int[SIGNS];
        int codes;
        final int[] codeEnd = new int[SPEAKS];
        final int[] settings = SETTING_UNTOLD.clone();

        void clear() {
            bowls = 0;
            places = 0;
            pairs = 0;
            speaks = 0;
            swift = 0;
            codes = 0;
            System.arraycopy(SETTING_UNTOLD, 0, settings, 0, SETTINGS);
        }

        void copy(Setup other) {
            bowls = other.bowls;
            places = other.places;
            System.arraycopy(other.tone, 0, tone, 0, BOWLS);
            System.arraycopy(other.size, 0, size, 0, BOWLS);
            System.arraycopy(other.wall, 0, wall, 0, BOWLS);
            System.arraycopy(other.kind, 0, kind, 0, BOWLS);
            System.arraycopy(other.place, 0, place, 0, BOWLS);
            pairs = other.pairs;
            System.arraycopy(other.first, 0, first, 0, PAIRS);
            System.arraycopy(other.firstNumber, 0, firstNumber, 0, PAIRS);
            System.arraycopy(other.second, 0, second, 0, PAIRS);
            System.arraycopy(other.secondNumber, 0, secondNumber, 0, PAIRS);
            System.arraycopy(other.within, 0, within, 0, PAIRS);
            speaks = other.speaks;
            swift = other.swift;
            codes = other.codes;
            System.arraycopy(other.code, 0, code, 0, SIGNS);
            System.arraycopy(other.codeEnd, 0, codeEnd, 0, SPEAKS);
            System.arraycopy(other.settings, 0, settings, 0, SETTINGS);
        }

        boolean hasBowl(int bowl) {
            return bowl >= 0 && bowl < bowls;
        }

        boolean hasPlace(int bowl) {
            return hasBowl(bowl) && kind[bowl] != SPARE;
        }

        boolean hasPair(int pair) {
            return pair >= 0 && pair < pairs;
        }

        boolean hasFinger(int finger) {
            return finger >= NONE && finger < 2 * settings[FINGERS];
        }

        boolean leftHand(int finger) {
            return finger < settings[FINGERS];
        }

        void putBowl(int newKind) {
            kind[bowls] = newKind;
            place[bowls] = newKind == SPARE ? NONE : places;
            places += newKind == SPARE ? 0 : 1;
            bowls++;
        }

        void putCode(int value) {
            if (codes < SIGNS) {
                code[codes] = value;
                codes++;
            }
            if (value == -W_SPEED) {
                swift |= 1 << speaks;
            }
        }

        void endSpeak() {
            if (speaks < SPEAKS) {
                codeEnd[speaks] = codes;
                speaks++;
            }
        }

        int speedOf(int pair) {
            return speedAt(pair, tone[first[pair]], tone[second[pair]]);
        }

        int speedAt(int pair, int firstTone, int secondTone) {
            return Math.abs(firstTone * secondNumber[pair] - secondTone * firstNumber[pair]);
        }

        int nearestSpare(int bowl) {
            int nearest = NONE;
            for (int other = 0; other < bowls; other++) {
                if (kind[other] == SPARE && (nearest == NONE || apart(other, bowl) < apart(nearest, bowl))) {
                    nearest = other;
                }
            }
            return nearest;
        }

        int apart(int one, int other) {
            return Math.abs(tone[one] - tone[other]);
        }

        void swap(int bowl, int spare) {
            place[spare] = place[bowl];
            kind[spare] = PLAIN;
            place[bowl] = NONE;
            kind[bowl] = SPARE;
        }
    }

    /** The NOTES. */
    private static final class Piece {
        int notes;
        final int[] bowl = new int[NOTES];
        final int[] from = new int[NOTES];
        final int[] length = new int[NOTES];
        final int[] press = new int[NOTES];
        final int[] finger = new int[NOTES];

        void copy(Piece other) {
            notes = other.notes;
            System.arraycopy(other.bowl, 0, bowl, 0, NOTES);
            System.arraycopy(other.from, 0, from, 0, NOTES);
            System.arraycopy(other.length, 0, length, 0, NOTES);
            System.arraycopy(other.press, 0, press, 0, NOTES);
            System.arraycopy(other.finger, 0, finger, 0, NOTES);
        }

        boolean has(int note) {
            return note >= 0 && note < notes;
        }

        boolean takes(int beat, int beats) {
            boolean room = notes < NOTES && beat >= (notes == 0 ? 0 : from[notes - 1]);
            return room && beat < BEATS && beats >= 1 && beats <= LONGEST && beat + beats <= BEATS;
        }

        void add(int newBowl, int beat, int beats, int newPress, int newFinger) {
            bowl[notes] = newBowl;
            from[notes] = beat;
            length[notes] = beats;
            press[notes] = newPress;
            finger[notes] = newFinger;
            notes++;
        }

        void rename(int old, int now) {
            for (int note = 0; note < notes; note++) {
                if (bowl[note] == old) {
                    bowl[note] = now;
                }
            }
        }

        int endOf(int note) {
            return from[note] + length[note];
        }

        boolean lasts(int note, int beat) {
            return has(note) && beat >= from[note] && beat < endOf(note);
        }

        boolean overlap(int one, int other) {
            return from[one] < endOf(other) && from[other] < endOf(one);
        }

        /** Whether the second NOTE goes on just where the first one ends, on the same BOWL. */
        boolean follows(int before, int note) {
            return bowl[before] == bowl[note] && endOf(before) == from[note];
        }

        int pressOn(int touchedBowl, int beat) {
            int sum = 0;
            for (int note = 0; note < notes; note++) {
                if (bowl[note] == touchedBowl && lasts(note, beat)) {
                    sum += press[note];
                }
            }
            return sum;
        }

        int firstIn(int beat) {
            for (int note = 0; note < notes; note++) {
                if (lasts(note, beat)) {
                    return note;
                }
            }
            return NONE;
        }
    }

    /** The TAPE and the TOKENS on it. */
    private static final class Tape {
        /** Above every place, the end's among them. */
        private static final int PLACES = 1024;

        final char[] signs = new char[SIGNS];
        int length;
        /** A token is END, BAD, NAME, a sign itself, WORD and a slot, or NUMBER and a value; its place stands behind it. */
        private final int[] row = new int[SIGNS + 1];
        private int tokens;

        void addBytes(long bytes) {
            for (int shift = 56; shift >= 0; shift -= 8) {
                int sign = (int) (bytes >>> shift) & 255;
                boolean good = sign == 10 || sign >= 32 && sign <= 126;
                if (good && length < SIGNS) {
                    signs[length] = (char) sign;
                    length++;
                }
            }
        }

        /** Stops at the first BAD token: nothing behind it can be the first that is wrong. */
        void split() {
            tokens = 0;
            int last = NAME;
            for (int at = 0; at < length && last != BAD; at++) {
                if (signs[at] != ' ' && signs[at] != 10) {
                    int end = endOf(at);
                    last = tokenFrom(at, end);
                    put(last, at);
                    at = Math.max(at, end - 1);
                }
            }
            put(END, length);
        }

        private void put(int newToken, int at) {
            if (tokens <= SIGNS) {
                row[tokens] = newToken * PLACES + at;
                tokens++;
            }
        }

        int tokenAt(int index) {
            return index >= 0 && index < tokens ? row[index] / PLACES : END;
        }

        int placeAt(int index) {
            return index >= 0 && index < tokens ? row[index] % PLACES : length;
        }

        private int endOf(int at) {
            int end = at + 1;
            if (isLetter(at)) {
                while (end < length && isLetter(end)) {
                    end++;
                }
            } else if (isDigit(at)) {
                while (end < length && isDigit(end)) {
                    end++;
                }
            }
            return end;
        }

        private boolean isLetter(int at) {
            return signs[at] >= 'a' && signs[at] <= 'z';
        }

        private boolean isDigit(int at) {
            return signs[at] >= '0' && signs[at] <= '9';
        }

        private int tokenFrom(int at, int end) {
            if (isLetter(at)) {
                return end - at > SLOT ? BAD : wordFrom(at, end);
            }
            if (isDigit(at)) {
                return end - at > 4 ? BAD : NUMBER + valueFrom(at, end);
            }
            return TOKEN_SIGNS.indexOf(signs[at]) >= 0 ? signs[at] : BAD;
        }

        private int valueFrom(int at, int end) {
            int value = 0;
            for (int i = at; i < end; i++) {
                value = value * 10 + signs[i] - '0';
            }
            return value;
        }

        private int wordFrom(int at, int end) {
            for (int slot = 0; slot < WORDS.length(); slot += SLOT) {
                if (fills(slot, at, end)) {
                    return WORD + slot / SLOT;
                }
            }
            return NAME;
        }

        private boolean fills(int slot, int at, int end) {
            for (int i = 0; i < SLOT && slot + i < WORDS.length(); i++) {
                char sign = at + i < end ? signs[at + i] : '.';
                if (WORDS.charAt(slot + i) != sign) {
                    return false;
                }
            }
            return true;
        }

        /** Whether the words at two places are alike. */
        boolean sameWord(int one, int other) {
            for (int i = 0; i <= SLOT; i++) {
                char left = letterAt(one + i);
                char right = letterAt(other + i);
                if (left != right) {
                    return false;
                }
                if (left == ' ') {
                    return true;
                }
            }
            return true;
        }

        private char letterAt(int at) {
            boolean letter = at >= 0 && at < length && signs[at] >= 'a' && signs[at] <= 'z';
            return letter ? signs[at] : ' ';
        }
    }

    /** Reads the TAPE as a SPINDLE; what reads a part says whether it was without a FAULT. */
    private static final class Reader {
        /** Each PART within so many others is one too many. */
        private static final int DEEPEST = 5;
        private static final int JOINED = 0;
        private static final int COMPARED = 1;
        private static final int ADDED = 2;
        private static final int MULTIPLIED = 3;
        private static final int ALONE = 4;

        private final Tape tape;
        private final Setup out;
        private final int[] names = new int[BOWLS];
        private int at;
        private int told;
        private int fault;

        Reader(Tape tape, Setup out) {
            this.tape = tape;
            this.out = out;
        }

        int read() {
            out.clear();
            at = 0;
            told = 0;
            fault = 0;
            tape.split();
            boolean good = true;
            for (int i = 0; i <= SIGNS && good && seen() != END; i++) {
                good = line();
            }
            return fault == 0 ? 0 : fault + 16 * placeSeen();
        }

        private int seen() {
            return tape.tokenAt(at);
        }

        private int placeSeen() {
            return tape.placeAt(at);
        }

        /** The token that is wrong stays the one seen, so that its place is known in the end. */
        private boolean refuse(int kind) {
            fault = kind;
            return false;
        }

        private boolean take(int token) {
            if (seen() != token) {
                return refuse(MISPLACED);
            }
            at++;
            return true;
        }

        private boolean number(int[] row, int index, int least, int most) {
            int value = seen() - NUMBER;
            if (value < 0) {
                return refuse(MISPLACED);
            }
            if (value < least || value > most) {
                return refuse(OUT_OF_BOUNDS);
            }
            if (index < 0 || index >= row.length) {
                return refuse(TOO_MANY);
            }
            row[index] = value;
            at++;
            return true;
        }

        private boolean line() {
            switch (seen()) {
                case W_BOWL: return out.bowls < BOWLS ? bowlLine() : refuse(TOO_MANY);
                case W_PAIR: return out.pairs < PAIRS ? pairLine() : refuse(TOO_MANY);
                case W_SPEAK: return out.speaks < SPEAKS ? speakLine() : refuse(TOO_MANY);
                case W_SET: return setLine();
                default: return refuse(MISPLACED);
            }
        }

        private boolean bowlLine() {
            int bowl = out.bowls;
            at++;
            boolean good = newName(bowl)
                && take(W_TONE) && number(out.tone, bowl, 1, 9999)
                && take(W_SIZE) && number(out.size, bowl, 1, 99)
                && take(W_WALL) && number(out.wall, bowl, 1, 20);
            if (!good) {
                return false;
            }
            int kind = PLAIN;
            if (seen() >= W_RIMMED && seen() <= W_SPARE) {
                kind = seen() - W_RIMMED + 1;
                at++;
            }
            if (!take(';')) {
                return false;
            }
            out.putBowl(kind);
            return true;
        }

        /** The facts that are no words of the lines may be NAMES, too. */
        private boolean isName() {
            return seen() == NAME || seen() >= W_SPEED && seen() <= W_TOUCH;
        }

        private int bowlSeen() {
            for (int bowl = 0; bowl < out.bowls; bowl++) {
                if (tape.sameWord(names[bowl], placeSeen())) {
                    return bowl;
                }
            }
            return NONE;
        }

        private boolean newName(int bowl) {
            if (!isName()) {
                return refuse(MISPLACED);
            }
            if (bowlSeen() != NONE) {
                return refuse(TOLD_BEFORE);
            }
            names[bowl] = placeSeen();
            at++;
            return true;
        }

        private boolean pairLine() {
            int pair = out.pairs;
            at++;
            boolean good = toldName(out.first, pair, NONE) && number(out.firstNumber, pair, 1, 20)
                && toldName(out.second, pair, out.first[pair]) && number(out.secondNumber, pair, 1, 20)
                && take(W_WITHIN) && number(out.within, pair, 0, 9999)
                && take(';');
            out.pairs += good ? 1 : 0;
            return good;
        }

        private boolean toldName(int[] row, int pair, int other) {
            if (!isName()) {
                return refuse(MISPLACED);
            }
            int bowl = bowlSeen();
            if (bowl == NONE) {
                return refuse(UNKNOWN_NAME);
            }
            if (bowl == other) {
                return refuse(TOLD_BEFORE);
            }
            row[pair] = bowl;
            at++;
            return true;
        }

        private boolean setLine() {
            at++;
            int what = seen() - W_TREADLE;
            if (what < 0 || what >= SETTINGS) {
                return refuse(MISPLACED);
            }
            if ((told >> what & 1) != 0) {
                return refuse(TOLD_BEFORE);
            }
            told |= 1 << what;
            at++;
            return number(out.settings, what, SETTING_LEAST[what], SETTING_MOST[what]) && take(';');
        }

        private boolean speakLine() {
            at++;
            if (!chain(JOINED, 0) || !take(';')) {
                return false;
            }
            out.endSpeak();
            return true;
        }

        /** Operands of the next closer level with this level's signs between them. */
        private boolean chain(int level, int depth) {
            if (level >= ALONE) {
                return part(depth);
            }
            if (!chain(level + 1, depth)) {
                return false;
            }
            int most = level == COMPARED ? 1 : SIGNS;
            for (int i = 0; i < most && levelOf(seen()) == level; i++) {
                int sign = seen();
                at++;
                if (!chain(level + 1, depth)) {
                    return false;
                }
                out.putCode(-sign);
            }
            return true;
        }

        private static int levelOf(int token) {
            switch (token) {
                case W_AND: case W_OR: return JOINED;
                case '<': case '=': return COMPARED;
                case '+': case '-': return ADDED;
                case '*': return MULTIPLIED;
                default: return NONE;
            }
        }

        private boolean part(int depth) {
            int token = seen();
            boolean isNumber = token >= NUMBER;
            boolean isFact = token == W_WALL || token >= W_SPEED && token <= W_TOUCH;
            if (!isNumber && !isFact && token != W_NOT && token != '(') {
                return refuse(MISPLACED);
            }
            if (depth >= DEEPEST) {
                return refuse(TOO_MANY);
            }
            at++;
            if (token == '(') {
                return chain(JOINED, depth + 1) && take(')');
            }
            if (token == W_NOT && !part(depth + 1)) {
                return false;
            }
            out.putCode(isNumber ? token - NUMBER : -token);
            return true;
        }
    }

    /** What comes of the speaks' laws. */
    private static final class Law {
        private final Setup setup;
        /** Five levels with four operands waiting in each, and one more. */
        private final int[] stack = new int[32];
        /** By the slots of their words. */
        private final int[] facts = new int[WORDS.length() / SLOT];

        Law(Setup setup) {
            this.setup = setup;
        }

        void tell(int press, int heat, int touch, int wall) {
            facts[W_PRESS - WORD] = press;
            facts[W_HEAT - WORD] = heat;
            facts[W_TOUCH - WORD] = touch;
            facts[W_WALL - WORD] = wall;
        }

        /** Whether nothing of the speaks that are asked, as bits, comes to 0. */
        boolean allows(int asked, int speed) {
            facts[W_SPEED - WORD] = speed;
            for (int speak = 0; speak < setup.speaks; speak++) {
                if ((asked >> speak & 1) != 0 && valueOf(speak) == 0) {
                    return false;
                }
            }
            return true;
        }

        private int valueOf(int speak) {
            int top = 0;
            int end = setup.codeEnd[speak];
            for (int i = speak == 0 ? 0 : setup.codeEnd[speak - 1]; i < end; i++) {
                int code = setup.code[i];
                if (isOperand(code)) {
                    if (top < stack.length) {
                        stack[top] = code >= 0 ? code : facts[-code - WORD];
                        top++;
                    }
                } else if (code == -W_NOT) {
                    if (top >= 1) {
                        stack[top - 1] = stack[top - 1] == 0 ? 1 : 0;
                    }
                } else if (top >= 2) {
                    top--;
                    stack[top - 1] = joined(-code, stack[top - 1], stack[top]);
                }
            }
            return stack[0];
        }

        private static boolean isOperand(int code) {
            return code >= 0 || code == -W_WALL || code <= -W_SPEED && code >= -W_TOUCH;
        }

        private static int joined(int sign, int left, int right) {
            switch (sign) {
                case '+': return left + right;
                case '-': return left - right;
                case '*': return left * right;
                case '<': return left < right ? 1 : 0;
                case '=': return left == right ? 1 : 0;
                case W_AND: return left != 0 && right != 0 ? 1 : 0;
                default: return left != 0 || right != 0 ? 1 : 0;
            }
        }
    }

    /** How the BOWLS are touched, warm and crack. */
    private static final class Warming {
        private final Setup setup;
        private final Piece piece;
        /** Of one BOWL after the other, by BEATS. */
        private final int[] presses = new int[BEATS];
        private final int[] heat = new int[BOWLS * BEATS];
        private final int[] crackFrom = new int[BOWLS];
        boolean known;

        Warming(Setup setup, Piece piece) {
            this.setup = setup;
            this.piece = piece;
        }

        /** Comes ahead of all that is asked. */
        void learn() {
            if (known) {
                return;
            }
            known = true;
            for (int bowl = 0; bowl < setup.bowls; bowl++) {
                press(bowl);
                warm(bowl);
            }
        }

        int heatOf(int bowl, int beat) {
            return heat[bowl * BEATS + beat];
        }

        int crackOf(int bowl) {
            return crackFrom[bowl];
        }

        boolean isCracked(int bowl, int beat) {
            return crackFrom[bowl] != NONE && beat >= crackFrom[bowl];
        }

        private void press(int bowl) {
            Arrays.fill(presses, 0);
            for (int note = 0; note < piece.notes; note++) {
                if (piece.bowl[note] == bowl) {
                    for (int beat = piece.from[note]; beat < piece.endOf(note); beat++) {
                        presses[beat] += piece.press[note];
                    }
                }
            }
        }

        private void warm(int bowl) {
            int limit = setup.wall[bowl] * setup.settings[CRACK];
            int warm = 0;
            crackFrom[bowl] = NONE;
            for (int beat = 0; beat < BEATS; beat++) {
                heat[bowl * BEATS + beat] = warm;
                if (crackFrom[bowl] == NONE && warm > limit) {
                    crackFrom[bowl] = beat;
                }
                if (presses[beat] > 0) {
                    int more = setup.settings[WARM] * presses[beat];
                    warm += setup.kind[bowl] == PLAIN ? more : more / 2;
                } else {
                    warm = Math.max(0, warm - setup.settings[COOL]);
                }
            }
        }
    }

    /** Which NOTES speak, and why not. */
    private static final class Voice {
        private static final int UNKNOWN = -1;
        private static final int GILT = 2;

        private final Setup setup;
        private final Piece piece;
        private final Warming warming;
        private final Hands hands;
        private final Law law;
        private final int[] reasons = new int[NOTES * LONGEST];
        private final int[] spoken = new int[TREADLES + 1];
        boolean known;

        Voice(Setup setup, Piece piece, Warming warming, Hands hands) {
            this.setup = setup;
            this.piece = piece;
            this.warming = warming;
            this.hands = hands;
            this.law = new Law(setup);
        }

        private void learn() {
            if (known) {
                return;
            }
            known = true;
            warming.learn();
            Arrays.fill(spoken, UNKNOWN);
            Arrays.fill(reasons, UNKNOWN);
        }

        /** For a BEAT in which the NOTE lasts. */
        int reasonOf(int note, int beat) {
            return Math.min(UNLAWFUL, reasonKept(note, beat));
        }

        private int reasonKept(int note, int beat) {
            if (!piece.lasts(note, beat)) {
                return TOO_SOON;
            }
            learn();
            int index = note * LONGEST + beat - piece.from[note];
            if (reasons[index] == UNKNOWN) {
                reasons[index] = reasonFound(note, beat);
            }
            return reasons[index];
        }

        private int reasonFound(int note, int beat) {
            int ahead = beat - piece.from[note];
            if (ahead < setup.settings[SOON]) {
                return TOO_SOON;
            }
            if (warming.isCracked(piece.bowl[note], beat)) {
                return IS_CRACKED;
            }
            if (hands.driesIn(note, ahead)) {
                return IS_DRY;
            }
            tellLaw(note, beat);
            int speed = speedOf(note, setup.settings[TREADLE]);
            if (!law.allows(~setup.swift, speed)) {
                return UNLAWFUL_EVER;
            }
            return law.allows(setup.swift, speed) ? 0 : UNLAWFUL;
        }

        private void tellLaw(int note, int beat) {
            int bowl = piece.bowl[note];
            int press = piece.press[note] - (setup.kind[bowl] == GILT ? 1 : 0);
            law.tell(press, warming.heatOf(bowl, beat), beat - piece.from[note], setup.wall[bowl]);
        }

        private int speedOf(int note, int treadle) {
            return setup.size[piece.bowl[note]] * treadle;
        }

        int spokenBy(int note) {
            int sum = 0;
            for (int beat = piece.from[note]; beat < piece.endOf(note); beat++) {
                sum += reasonKept(note, beat) == 0 ? 1 : 0;
            }
            return sum;
        }

        private boolean speaksAt(int note, int beat, int treadle) {
            int reason = reasonKept(note, beat);
            if (setup.swift == 0 || treadle == setup.settings[TREADLE]) {
                return reason == 0;
            }
            if (reason != 0 && reason != UNLAWFUL) {
                return false;
            }
            tellLaw(note, beat);
            return law.allows(setup.swift, speedOf(note, treadle));
        }

        int spokenAt(int treadle) {
            learn();
            if (spoken[treadle] == UNKNOWN) {
                int sum = 0;
                for (int note = 0; note < piece.notes; note++) {
                    for (int beat = piece.from[note]; beat < piece.endOf(note); beat++) {
                        sum += speaksAt(note, beat, treadle) ? 1 : 0;
                    }
                }
                spoken[treadle] = sum;
            }
            return spoken[treadle];
        }

        int speakingIn(int beat) {
            int bits = 0;
            for (int note = 0; note < piece.notes; note++) {
                if (piece.lasts(note, beat) && reasonKept(note, beat) == 0) {
                    bits |= 1 << note;
                }
            }
            return bits;
        }

        int ringingIn(int beat) {
            int speaking = speakingIn(beat);
            if (speaking == 0) {
                return 0;
            }
            int bits = 0;
            for (int bowl = 0; bowl < setup.bowls; bowl++) {
                boolean free = setup.hasPlace(bowl) && piece.pressOn(bowl, beat) == 0
                    && !warming.isCracked(bowl, beat);
                if (free && isRoused(bowl, speaking)) {
                    bits |= 1 << bowl;
                }
            }
            return bits;
        }

        private boolean isRoused(int bowl, int speaking) {
            for (int note = 0; note < piece.notes; note++) {
                int other = piece.bowl[note];
                boolean near = Math.abs(setup.place[bowl] - setup.place[other]) == 1
                    && setup.apart(bowl, other) <= setup.settings[ALONG];
                if (near && (speaking >> note & 1) != 0) {
                    return true;
                }
            }
            return false;
        }

        int silentFrom(int first) {
            for (int beat = first; beat < BEATS; beat++) {
                if (piece.firstIn(beat) != NONE && speakingIn(beat) == 0) {
                    return beat;
                }
            }
            return NONE;
        }
    }

    /** What fingers do to NOTES: in each row of fingers those of the NOTES before are looked at alone. */
    private static final class Hands {
        private final Setup setup;
        private final Piece piece;

        Hands(Setup setup, Piece piece) {
            this.setup = setup;
            this.piece = piece;
        }

        int placeOf(int note) {
            return setup.place[piece.bowl[note]];
        }

        /** What is WRONG with a NOTE's finger in a row of fingers, or 0. */
        int faultOf(int[] fingers, int note) {
            if (fingers[note] == NONE) {
                return NO_FINGER;
            }
            int least = DRIES + 1;
            for (int other = 0; other < note; other++) {
                if (fingers[other] != NONE && piece.overlap(other, note)) {
                    least = Math.min(least, clash(fingers, other, note));
                }
            }
            if (least <= DRIES) {
                return least;
            }
            return wornBefore(fingers, note) + piece.length[note] > setup.settings[DRY] ? DRIES : 0;
        }

        private int clash(int[] fingers, int other, int note) {
            int mine = fingers[note];
            int its = fingers[other];
            if (mine == its) {
                return BUSY;
            }
            int higher = placeOf(note) - placeOf(other);
            if (its < mine ? higher <= 0 : higher >= 0) {
                return CROSSES;
            }
            boolean sameHand = setup.leftHand(mine) == setup.leftHand(its);
            return sameHand && Math.abs(higher) > setup.settings[REACH] ? TOO_WIDE : DRIES + 1;
        }

        /** For how many BEATS a NOTE's finger has touched since it was wetted, as the NOTE begins. */
        private int wornBefore(int[] fingers, int note) {
            int worn = 0;
            int end = NONE;
            for (int other = 0; other <= note; other++) {
                if (fingers[other] == fingers[note]) {
                    if (end != NONE && piece.from[other] - end >= setup.settings[DIP]) {
                        worn = 0;
                    }
                    worn += piece.length[other];
                    end = piece.endOf(other);
                }
            }
            return worn - piece.length[note];
        }

        /** Whether the finger told for a NOTE is DRY so many BEATS behind the NOTE's beginning. */
        boolean driesIn(int note, int ahead) {
            return piece.finger[note] != NONE
                && wornBefore(piece.finger, note) + ahead >= setup.settings[DRY];
        }

        boolean liftsAt(int[] fingers, int note) {
            if (fingers[note] == NONE) {
                return true;
            }
            for (int other = note - 1; other >= 0; other--) {
                if (fingers[other] == fingers[note]) {
                    return !piece.follows(other, note);
                }
            }
            return true;
        }
    }

    /** FEWEST and FAR. */
    private static final class Fingering {
        private static final int NEVER = 1000;

        private final Setup setup;
        private final Piece piece;
        private final Hands hands;
        private final int[] trial = new int[SEARCHED];
        private final int[] kept = new int[SEARCHED];
        /** Lifts that the NOTES from one on can't do without. */
        private final int[] sure = new int[SEARCHED + 1];
        private final int[] touching = new int[SEARCHED];
        /** NOTES ahead of the first one that no fingers can play. */
        private int playable;
        private int fewest;
        private int far;
        boolean known;

        Fingering(Setup setup, Piece piece, Hands hands) {
            this.setup = setup;
            this.piece = piece;
            this.hands = hands;
        }

        int fewestLifts() {
            return learn() && fewest < NEVER ? fewest : NONE;
        }

        int farthest() {
            return learn() ? far : NONE;
        }

        int fingerOf(int note) {
            return learn() && fewest < NEVER && piece.has(note) ? kept[note] : NONE;
        }

        private boolean learn() {
            if (piece.notes > SEARCHED) {
                return false;
            }
            if (!known) {
                known = true;
                fewest = NEVER;
                far = 0;
                countSure();
                countPlayable();
                search(0, 0);
            }
            return true;
        }

        private void countSure() {
            sure[piece.notes] = 0;
            for (int note = piece.notes - 1; note >= 0; note--) {
                sure[note] = sureFrom(note);
            }
        }

        /** Who goes on for as long as a finger stays wet lifts least, were there no other NOTES. */
        private int sureFrom(int first) {
            int sum = 0;
            for (int note = 0; note < piece.notes; note++) {
                int before = note < first ? NONE : followed(note);
                int both = before == NONE ? 0 : touching[before] + piece.length[note];
                boolean goesOn = before != NONE && both <= setup.settings[DRY];
                touching[note] = goesOn ? both : piece.length[note];
                sum += note < first || goesOn ? 0 : 1;
            }
            return sum;
        }

        private int followed(int note) {
            for (int other = 0; other < note; other++) {
                if (piece.follows(other, note)) {
                    return other;
                }
            }
            return NONE;
        }

        /** Without this the search would try all fingers of the NOTES ahead of a hopeless one. */
        private void countPlayable() {
            playable = 0;
            while (playable < piece.notes && !isHopeless(playable)) {
                playable++;
            }
        }

        private boolean isHopeless(int note) {
            if (piece.length[note] > setup.settings[DRY]) {
                return true;
            }
            for (int split = 0; split <= BOWLS; split++) {
                if (handHolds(note, 0, split) && handHolds(note, split, BOWLS)) {
                    return false;
                }
            }
            return true;
        }

        /** Whether one hand can hold all that lasts at these PLACES as a NOTE begins. */
        private boolean handHolds(int note, int fromPlace, int toPlace) {
            int held = 0;
            int taken = 0;
            int lowest = toPlace;
            int highest = fromPlace;
            for (int other = 0; other <= note; other++) {
                int place = hands.placeOf(other);
                if (piece.overlap(other, note) && place >= fromPlace && place < toPlace) {
                    if ((taken >> place & 1) != 0) {
                        return false;
                    }
                    taken |= 1 << place;
                    held++;
                    lowest = Math.min(lowest, place);
                    highest = Math.max(highest, place);
                }
            }
            return held <= setup.settings[FINGERS] && highest - lowest <= setup.settings[REACH];
        }

        /** Least fingers come first, so that of equal fingerings the first one found stays. */
        private void search(int note, int lifts) {
            far = Math.max(far, note);
            if (note >= playable) {
                if (note == piece.notes) {
                    fewest = lifts;
                    System.arraycopy(trial, 0, kept, 0, SEARCHED);
                }
                return;
            }
            for (int finger = 0; finger < 2 * setup.settings[FINGERS] && !isSettled(); finger++) {
                trial[note] = finger;
                if (hands.faultOf(trial, note) == 0) {
                    int sum = lifts + (hands.liftsAt(trial, note) ? 1 : 0);
                    if (sum + sure[note + 1] < fewest) {
                        search(note + 1, sum);
                    }
                }
            }
        }

        private boolean isSettled() {
            return fewest <= sure[0] || playable < piece.notes && far >= playable;
        }
    }

    /**
     * LEAST. One BOWL after the other is taken out: for each way of grinding its neighbours the
     * best that it can do is kept, and hangs on the neighbours alone from then on.
     */
    private static final class Grinding {
        private static final int STEPS = 7;
        private static final int ZERO = 3;
        /** With 8 pairs a BOWL of the fewest neighbours has 3 at most, whatever was taken out. */
        private static final int NEIGHBOURS = 3;
        /** What the ways of all nodes come to at most, 8 pairs tried out: 343 twice, 49, 7 and 1. */
        private static final int WAYS = 743;
        /** A cost is the glass times this, and behind it the steps as digits, first BOWL first. */
        private static final long DIGITS = 5764801L;
        private static final long NEVER = 1000000000000000L;

        private final Setup setup;
        private final int[] bowlOf = new int[SEARCHED];
        private final int[] nodeOf = new int[BOWLS];
        private int nodes;
        private final int[] near = new int[SEARCHED];
        private final int[] scope = new int[SEARCHED];
        private final long[] table = new long[WAYS];
        /** Where a node's row begins in the table. */
        private final int[] start = new int[SEARCHED];
        private int used;
        private final int[] step = new int[SEARCHED];
        private int gone;
        /** Nodes taken out whose rows still wait for a neighbour to be taken out. */
        private int waiting;
        private long least;
        boolean known;

        Grinding(Setup setup) {
            this.setup = setup;
        }

        int leastGlass() {
            learn();
            return least >= NEVER ? NONE : (int) (least / DIGITS);
        }

        /** For a BOWL that is there, if there is a LEAST. */
        int stepOf(int bowl) {
            learn();
            int node = nodeOf[bowl];
            if (node == NONE) {
                return 0;
            }
            return (int) (least / weightOf(node) % STEPS) - ZERO;
        }

        private void learn() {
            if (known) {
                return;
            }
            known = true;
            least = NEVER;
            if (listNodes()) {
                listNeighbours();
                least = 0;
                for (int i = 0; i < nodes; i++) {
                    takeOut(nextNode());
                }
            }
        }

        /** Whether they are not too many. */
        private boolean listNodes() {
            nodes = 0;
            Arrays.fill(nodeOf, NONE);
            for (int bowl = 0; bowl < setup.bowls; bowl++) {
                if (isPaired(bowl)) {
                    if (nodes >= SEARCHED) {
                        return false;
                    }
                    bowlOf[nodes] = bowl;
                    nodeOf[bowl] = nodes;
                    nodes++;
                }
            }
            return true;
        }

        private boolean isPaired(int bowl) {
            for (int pair = 0; pair < setup.pairs; pair++) {
                if (setup.first[pair] == bowl || setup.second[pair] == bowl) {
                    return true;
                }
            }
            return false;
        }

        private void listNeighbours() {
            gone = 0;
            waiting = 0;
            used = 0;
            Arrays.fill(near, 0);
            for (int pair = 0; pair < setup.pairs; pair++) {
                int one = nodeOf[setup.first[pair]];
                int other = nodeOf[setup.second[pair]];
                near[one] |= 1 << other;
                near[other] |= 1 << one;
            }
        }

        private int nextNode() {
            int next = NONE;
            for (int node = 0; node < nodes; node++) {
                boolean there = (gone >> node & 1) == 0;
                if (there && (next == NONE || Integer.bitCount(near[node]) < Integer.bitCount(near[next]))) {
                    next = node;
                }
            }
            return next;
        }

        private void takeOut(int node) {
            if (node == NONE || Integer.bitCount(near[node]) > NEIGHBOURS) {
                least = NEVER;
                return;
            }
            scope[node] = near[node];
            start[node] = used;
            int ways = waysOf(scope[node]);
            for (int way = 0; way < ways && used < WAYS; way++) {
                spread(scope[node], way);
                table[used] = bestStep(node);
                used++;
            }
            leave(node);
            if (scope[node] == 0) {
                least = Math.min(NEVER, least + table[start[node]]);
            }
        }

        private int waysOf(int mask) {
            int ways = 1;
            for (int i = 0; i < Integer.bitCount(mask); i++) {
                ways *= STEPS;
            }
            return ways;
        }

        /** The nodes of a mask take the steps that are the digits of a way. */
        private void spread(int mask, int way) {
            int rest = way;
            for (int node = 0; node < nodes; node++) {
                if ((mask >> node & 1) != 0) {
                    step[node] = rest % STEPS;
                    rest /= STEPS;
                }
            }
        }

        private int wayOf(int mask) {
            int way = 0;
            for (int node = nodes - 1; node >= 0; node--) {
                if ((mask >> node & 1) != 0) {
                    way = way * STEPS + step[node];
                }
            }
            return way;
        }

        private long bestStep(int node) {
            long best = NEVER;
            for (int i = 0; i < STEPS; i++) {
                step[node] = i;
                if (fits(node)) {
                    best = Math.min(best, costOf(node));
                }
            }
            return best;
        }

        private int toneOf(int node) {
            return setup.tone[bowlOf[node]] + (step[node] - ZERO) * setup.settings[GRIND];
        }

        /** Whether the tone may be, and each pair with a BOWL that is still there beats as it should. */
        private boolean fits(int node) {
            if (toneOf(node) < 1 || toneOf(node) > 9999) {
                return false;
            }
            for (int pair = 0; pair < setup.pairs; pair++) {
                int one = nodeOf[setup.first[pair]];
                int other = nodeOf[setup.second[pair]];
                boolean mine = one == node || other == node;
                if (mine && (gone >> one & 1) == 0 && (gone >> other & 1) == 0
                    && setup.speedAt(pair, toneOf(one), toneOf(other)) > setup.within[pair]) {
                    return false;
                }
            }
            return true;
        }

        private long costOf(int node) {
            long glass = Math.abs(step[node] - ZERO) * setup.size[bowlOf[node]];
            long cost = glass * DIGITS + step[node] * weightOf(node);
            for (int other = 0; other < nodes; other++) {
                boolean hangs = (waiting >> other & 1) != 0 && (scope[other] >> node & 1) != 0;
                if (hangs) {
                    cost += table[start[other] + wayOf(scope[other])];
                }
            }
            return Math.min(cost, NEVER);
        }

        private long weightOf(int node) {
            long weight = DIGITS;
            for (int i = 0; i <= node; i++) {
                weight /= STEPS;
            }
            return Math.max(1, weight);
        }

        private void leave(int node) {
            int bit = 1 << node;
            gone |= bit;
            for (int other = 0; other < nodes; other++) {
                if ((waiting >> other & 1) != 0 && (scope[other] & bit) != 0) {
                    waiting &= ~(1 << other);
                }
                if ((near[node] >> other & 1) != 0) {
                    near[other] = (near[other] | near[node]) & ~bit & ~(1 << other);
                }
            }
            waiting |= scope[node] == 0 ? 0 : bit;
        }
    }

    /**
     * ORDER. Hands pass the gap behind the first PLACES whenever they go from a BOWL on this side
     * of it to one beyond: so what the other PLACES add hangs on which BOWLS are on this side.
     */
    private static final class Ordering {
        private final Setup setup;
        private final Piece piece;
        private final int[] bowlOf = new int[SEARCHED];
        private final int[] nodeOf = new int[NOTES];
        private int nodes;
        private final int[] least = new int[1 << SEARCHED];
        private final int[] found = new int[SEARCHED];
        boolean known;

        Ordering(Setup setup, Piece piece) {
            this.setup = setup;
            this.piece = piece;
        }

        int leastMoved() {
            return learn() ? least[0] : NONE;
        }

        int bowlAt(int place) {
            return place >= 0 && place < setup.places && learn() ? found[place] : NONE;
        }

        private boolean learn() {
            if (setup.places > SEARCHED) {
                return false;
            }
            if (!known) {
                known = true;
                listNodes();
                int all = (1 << nodes) - 1;
                least[all] = 0;
                for (int near = all - 1; near >= 0; near--) {
                    least[near] = passes(near) + least[near | 1 << nextOf(near)];
                }
                follow();
            }
            return true;
        }

        private void listNodes() {
            nodes = 0;
            for (int bowl = 0; bowl < setup.bowls; bowl++) {
                if (setup.hasPlace(bowl) && nodes < SEARCHED) {
                    bowlOf[nodes] = bowl;
                    for (int note = 0; note < piece.notes; note++) {
                        if (piece.bowl[note] == bowl) {
                            nodeOf[note] = nodes;
                        }
                    }
                    nodes++;
                }
            }
        }

        private int passes(int near) {
            int sum = 0;
            for (int note = 1; note < piece.notes; note++) {
                sum += (near >> nodeOf[note] ^ near >> nodeOf[note - 1]) & 1;
            }
            return sum;
        }

        /** The first of the BOWLS that are best put behind those that are near. */
        private int nextOf(int near) {
            int next = NONE;
            for (int node = 0; node < nodes; node++) {
                boolean free = (near >> node & 1) == 0;
                if (free && (next == NONE || least[near | 1 << node] < least[near | 1 << next])) {
                    next = node;
                }
            }
            return Math.max(0, next);
        }

        private void follow() {
            int near = 0;
            for (int place = 0; place < nodes; place++) {
                int node = nextOf(near);
                found[place] = bowlOf[node];
                near |= 1 << node;
            }
        }
    }
}
