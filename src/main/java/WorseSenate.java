/**
 * A senate in which each must speak for the side he is against.
 * What each call answers is told in the document; the classes inside are the parts of it:
 * Scanner, Grammar, Tokens and Reader take a text, Roll and Laws keep what it tells, State is what
 * goes on, Past what can be gone back to, Speech one speech, Debate all speeches on one motion.
 */
public final class WorseSenate {
    public static final int NONE = -1;

    /** There is such a one, but it is not so. */
    private static final int NOT_SO = -2;
    private static final int NOT_OLD = -10000;

    private static final int MOST_MEN = 7;
    private static final int MOST_MOTIONS = 5;
    private static final int MOST_JURORS = 8;
    private static final int MOST_SIDES = 3;
    private static final int MOST_BYTES = 2000;
    private static final int MOST_TOKENS = 400;
    private static final int MOST_IFS = 4;
    private static final int MOST_OPEN = 6;
    private static final int MOST_PRAISE = 9;
    private static final int MOST_UNDONE = 40;
    private static final int MOST_TOLD = 20;
    private static final int MOST_SUM = 99;
    private static final int MOST_GOOD = 99;
    private static final int MOST_SEEDS = 20;
    private static final int MOST_CHOOSERS = 3;
    private static final int SLOTS = 3;
    private static final int MANNERS = 4;
    private static final int PLAIN = 0;
    private static final int MUMBLED = 1;
    private static final int JOKE = 2;

    private static final int SYNTAX = 1;
    private static final int ROOM = 2;
    private static final int TWICE = 3;
    private static final int WRONG = 5;

    // Kinds of tokens: a sign is its own byte, a word stands WORD and more behind its place in WORDS.
    private static final int BAD = 0;
    private static final int NAME = 1;
    private static final int INT = 2;
    private static final int END = 3;
    private static final int WORD = 128;
    private static final int LETTERS = 8;
    private static final int DIGITS = 4;
    private static final String SIGNS = ";=+-*/<()";
    private static final String WORDS = "sides   man     motion  juror   seed    argues  marks   fines   if      then    else    skill   manner  slip    praise  day     good    lean    which   sworn   ";

    // Sorts of TELLs, as their words stand in WORDS: those of numbers first, then the laws.
    private static final int SIDES_TELL = 0;
    private static final int MAN_TELL = 1;
    private static final int MOTION_TELL = 2;
    private static final int JUROR_TELL = 3;
    private static final int SEED_TELL = 4;
    private static final int LAW_TELL = 5;
    private static final int TELLS = 8;
    private static final int WORD_IF = WORD + 8;
    private static final int WORD_THEN = WORD + 9;
    private static final int WORD_ELSE = WORD + 10;
    private static final int WORD_VAR = WORD + 11;
    /** How often a sort may be told; no limit but the tokens' own for sides, seed and laws. */
    private static final int[] MOST = {MOST_TOKENS, MOST_MEN, MOST_MOTIONS, MOST_JURORS,
        MOST_TOKENS, MOST_TOKENS, MOST_TOKENS, MOST_TOKENS};
    private static final int[] NAMES = {0, 1, 1, 1, 0};
    private static final int[] INTS = {1, 4, 3, 1, 1};
    private static final int ROW = 4;
    private static final int[] LOW = {2, 0, 0, 0, 0, 1, 0, 0, 0, 0, 0, 0, 0, 0, 0, 0, 0, 0, 0, 0};
    private static final int[] HIGH =
        {3, 0, 0, 0, 2, 9, 10, 999, 99, 99, 99, 0, 2, 0, 0, 0, 9999, 0, 0, 0};

    private static final int ARGUES = 0;
    private static final int MARKS = 1;
    private static final int FINES = 2;
    private static final int LAWS = 3;

    private static final int SKILL = 0;
    private static final int MANNER = 1;
    private static final int SLIP = 2;
    private static final int PRAISE = 3;
    private static final int DAY = 4;
    private static final int GOOD = 5;
    private static final int LEAN = 6;
    private static final int WHICH = 7;
    private static final int SWORN = 8;
    private static final int VARS = 9;

    private final byte[] tape = new byte[MOST_BYTES];
    private int tapeSize = 0;
    private int faultPlace = NONE;
    private final Reader reader = new Reader();
    private final Roll roll = new Roll();
    private final State state = new State();
    private final Past past = new Past();
    private final Speech speech = new Speech(roll);
    private final Debate debate = new Debate(roll, state, speech);
    private final int[] toldMan = new int[MOST_TOLD];
    private final int[] toldSum = new int[MOST_TOLD];
    private int told = 0;

    public WorseSenate() {
        state.begin(roll);
    }

    public int feed(int a, int b, int c, int d, int e) {
        if (tapeSize + 20 > MOST_BYTES) {
            return NONE;
        }
        putBytes(a);
        putBytes(b);
        putBytes(c);
        putBytes(d);
        putBytes(e);
        return tapeSize;
    }

    public int back(int n) {
        if (n < 0 || n > tapeSize) {
            return NONE;
        }
        tapeSize -= n;
        return tapeSize;
    }

    public int read() {
        int fault = reader.faultOf(tape, tapeSize);
        faultPlace = reader.place;
        tapeSize = 0;
        if (fault == 0) {
            roll.fill(reader.tokens);
            state.begin(roll);
            past.clear();
            told = 0;
        }
        return fault;
    }

    public int place() {
        return faultPlace;
    }

    public int man(int man, int what) {
        if (!isMan(man)) {
            return NONE;
        }
        switch (what) {
            case 0: return state.get(man, State.SIDE);
            case 1: return state.isSworn(man) ? 1 : 0;
            case 2: return state.pleadsFor(man, roll.sides);
            case 3: return state.get(man, State.COINS);
            case 4: return state.get(man, State.TOPIC);
            case 5: return state.get(man, State.MANNER_NOW);
            case 6: return state.get(man, State.PRAISED);
            case 7: return state.get(man, State.KEPT);
            case 8: return state.get(man, State.READS);
            case 9: return state.get(man, State.SLIPS);
            default: return NONE;
        }
    }

    public int motion(int motion, int what) {
        if (!isMotion(motion)) {
            return NONE;
        }
        switch (what) {
            case 0: return state.fellTo(motion);
            case 1: return speakersOn(motion);
            case 2:
            case 3:
            case 4: return roll.worthOf(motion, what - 2);
            default: return NONE;
        }
    }

    public int argues(int man, int manner, boolean slip) {
        if (!isMan(man) || !isManner(manner)) {
            return NONE;
        }
        speech.take(state, man);
        speech.manner = manner;
        speech.slip = slip ? 1 : 0;
        speech.old = NONE;
        return speech.goodness();
    }

    public int mark(int juror, int man, boolean slip) {
        if (!isMan(man) || juror < 0 || juror >= roll.jurors) {
            return NONE;
        }
        if (isSilent(man)) {
            return NOT_SO;
        }
        speech.take(state, man);
        speech.slip = slip ? 1 : 0;
        return speech.markBy(juror, speech.goodness());
    }

    public int sum(int man, boolean slip) {
        if (!isMan(man)) {
            return NONE;
        }
        return isSilent(man) ? NOT_SO : totalOf(man, slip ? 1 : 0);
    }

    public boolean speak(int man, int motion, int manner) {
        if (!isMan(man)) {
            return false;
        }
        if (motion == NONE) {
            if (isSilent(man)) {
                return false;
            }
            past.keep(state);
            state.hush(man);
            return true;
        }
        if (!isMotion(motion) || !isManner(manner) || state.fellTo(motion) != NOT_SO) {
            return false;
        }
        if (state.get(man, State.TOPIC) == motion && state.get(man, State.MANNER_NOW) == manner) {
            return false;
        }
        past.keep(state);
        state.set(man, State.TOPIC, motion);
        state.set(man, State.MANNER_NOW, manner);
        return true;
    }

    public int praise(int man) {
        if (!isMan(man)) {
            return NONE;
        }
        int praised = state.get(man, State.PRAISED);
        if (praised >= MOST_PRAISE) {
            return NOT_SO;
        }
        past.keep(state);
        state.set(man, State.PRAISED, praised + 1);
        return praised + 1;
    }

    public int reads(int man, int other) {
        if (!isMan(man) || !isMan(other) || man == other) {
            return NONE;
        }
        int good = state.get(other, State.KEPT);
        int coins = state.get(man, State.COINS);
        if (isSilent(man) || good == NOT_SO || state.get(man, State.READS) == other || coins < good) {
            return NOT_SO;
        }
        past.keep(state);
        state.set(man, State.READS, other);
        state.set(man, State.READ_GOOD, good);
        state.set(man, State.COINS, coins - good);
        state.set(other, State.COINS, state.get(other, State.COINS) + good);
        return coins - good;
    }

    public boolean swear(int man, int side) {
        if (!isMan(man) || !isSide(side) || state.isSworn(man) || state.get(man, State.SIDE) == side) {
            return false;
        }
        past.keep(state);
        state.set(man, State.LEFT, state.get(man, State.SIDE));
        state.set(man, State.SIDE, side);
        return true;
    }

    public int session(int motion) {
        if (!isMotion(motion)) {
            return NONE;
        }
        if (state.fellTo(motion) != NOT_SO || speakersOn(motion) == 0 || roll.jurors == 0) {
            return NOT_SO;
        }
        past.keep(state);
        long bag = 0;
        for (int man = 0; man < roll.men; man++) {
            if (state.get(man, State.TOPIC) == motion) {
                bag += hear(man);
            }
        }
        int side = Tally.winner(bag);
        state.fall(motion, side);
        return side;
    }

    public boolean undo() {
        return past.takeBack(state);
    }

    public int now(int motion, int side) {
        if (!isMotion(motion) || (side != NONE && !isSide(side))) {
            return NONE;
        }
        debate.gather(motion, state.day());
        long bag = debate.asItIs();
        return side == NONE ? Tally.winner(bag) : Tally.total(bag, side);
    }

    public int likely(int motion, int side, boolean below) {
        if (!isMotion(motion) || !isSide(side)) {
            return NONE;
        }
        debate.gather(motion, state.day());
        debate.weigh();
        debate.turnBySlip();
        return lessened(debate.chanceOf(side), debate.allChances(), below);
    }

    public int change(int motion, int side, int what) {
        if (!isMotion(motion) || !isSide(side) || what < 0 || what > 1) {
            return NONE;
        }
        debate.gather(motion, state.day());
        int who = debate.whoChanges(side);
        return who == NOT_SO || what == 1 ? who : Integer.bitCount(who);
    }

    public int choose(int motion, int side, int i) {
        if (!isMotion(motion) || !isSide(side)) {
            return NONE;
        }
        debate.gather(motion, state.day());
        debate.pickManners(side);
        return debate.pickedManner(i);
    }

    public int chosen(int motion, int side, boolean below) {
        if (!isMotion(motion) || !isSide(side)) {
            return NONE;
        }
        debate.gather(motion, state.day());
        int chance = debate.pickManners(side);
        return lessened(chance, debate.allChances(), below);
    }

    public int mumble(int motion, int i) {
        if (!isMotion(motion) || i < NONE) {
            return NONE;
        }
        debate.gather(motion, state.day());
        return debate.rest(motion, i);
    }

    public int jury(int motion, int n, int what) {
        if (!isMotion(motion) || n < 1 || n > MOST_JURORS || what < 0 || what > 1) {
            return NONE;
        }
        if (n > roll.jurors || speakersOn(motion) == 0) {
            return NOT_SO;
        }
        debate.gather(motion, state.day());
        debate.gatherJurors();
        int who = debate.fairest(n);
        return what == 0 ? who : Tally.apart(debate.bagOf(who));
    }

    public int say(int man, int sum) {
        if (!isMan(man) || sum < 0 || sum > MOST_SUM) {
            return NONE;
        }
        speech.take(state, man);
        speech.manner = PLAIN;
        for (int good = 0; good <= MOST_GOOD; good++) {
            if (speech.totalAs(good) >= sum) {
                return good;
            }
        }
        return NOT_SO;
    }

    public int fine(int man, boolean slip) {
        if (!isMan(man)) {
            return NONE;
        }
        if (isSilent(man) || roll.jurors == 0) {
            return NOT_SO;
        }
        int total = totalOf(man, slip ? 1 : 0);
        return Math.min(speech.fineFor(total), state.get(man, State.COINS));
    }

    public int ahead(int motion) {
        if (!isMotion(motion)) {
            return NONE;
        }
        debate.gather(motion, state.day());
        return Tally.lead(debate.asItIs());
    }

    public int harsh(int motion, boolean kind) {
        if (!isMotion(motion)) {
            return NONE;
        }
        if (speakersOn(motion) == 0 || roll.jurors == 0) {
            return NOT_SO;
        }
        debate.gather(motion, state.day());
        debate.gatherJurors();
        return debate.harshest(kind);
    }

    public int praiseFor(int motion, int side, int man) {
        if (!isMotion(motion) || !isSide(side) || !isMan(man)) {
            return NONE;
        }
        if (state.get(man, State.TOPIC) != motion) {
            return NOT_SO;
        }
        debate.gather(motion, state.day());
        speech.take(state, man);
        long others = debate.asItIs() - speech.entry();
        int praised = speech.praise;
        for (int more = 0; praised + more <= MOST_PRAISE; more++) {
            speech.praise = praised + more;
            if (Tally.winner(others + speech.entry()) == side) {
                return more;
            }
        }
        return NOT_SO;
    }

    public int old(int man, int other) {
        if (!isMan(man) || !isMan(other) || man == other) {
            return NOT_OLD;
        }
        int good = state.get(other, State.KEPT);
        if (isSilent(man) || good == NOT_SO) {
            return NOT_OLD;
        }
        int total = totalOf(man, 0);
        return speech.totalAs(good) - total;
    }

    public int year(int side, int s) {
        if (!isSide(side) || s < 1 || s > MOST_SEEDS) {
            return NONE;
        }
        int worth = 0;
        int day = state.day();
        for (int motion = 0; motion < roll.motions; motion++) {
            if (speakersOn(motion) != 0) {
                debate.gather(motion, day);
                debate.turnBySlip();
                worth += roll.worthOf(motion, side) * debate.fallsBySeeds(side, s);
                day++;
            }
        }
        return worth;
    }

    public int tell(int man, int sum) {
        if (told >= MOST_TOLD || !isMan(man) || sum < 0 || sum > MOST_SUM) {
            return NONE;
        }
        toldMan[told] = man;
        toldSum[told] = sum;
        told++;
        return told - 1;
    }

    public int forget() {
        int were = told;
        told = 0;
        return were;
    }

    public int slipped(int k, int i) {
        if (k < 0 || k > told || i < NONE) {
            return NONE;
        }
        int may = 0;
        int must = 0;
        for (int man = 0; man < roll.men; man++) {
            if (isSilent(man)) {
                if (isKnown(man, k)) {
                    return i == NONE ? 0 : NONE;
                }
                continue;
            }
            boolean slips = isAsTold(man, k, totalOf(man, 1));
            boolean holds = isAsTold(man, k, totalOf(man, 0));
            if (!slips && !holds) {
                return i == NONE ? 0 : NONE;
            }
            may |= slips ? 1 << man : 0;
            must |= holds ? 0 : 1 << man;
        }
        return setBetween(must, may, i);
    }

    public int thinks(int man, int k) {
        if (!isMan(man) || k < 0 || k > told) {
            return NONE;
        }
        if (isSilent(man)) {
            return isKnown(man, k) ? 0 : (1 << roll.sides) - 1;
        }
        int sides = 0;
        for (int side = 0; side < roll.sides; side++) {
            for (int slip = 0; slip <= 1; slip++) {
                speech.take(state, man);
                speech.slip = slip;
                if (speech.sworn == 0) {
                    speech.pleads = State.behind(side, roll.sides);
                }
                if (isAsTold(man, k, speech.totalAs(speech.goodness()))) {
                    sides |= 1 << side;
                }
            }
        }
        return sides;
    }

    public boolean hold(int slot) {
        if (slot < 0 || slot >= SLOTS) {
            return false;
        }
        past.putInSlot(slot, state);
        return true;
    }

    public boolean restore(int slot) {
        return slot >= 0 && slot < SLOTS && past.takeFromSlot(slot, state);
    }

    public int count(int what) {
        switch (what) {
            case 0: return roll.sides;
            case 1: return roll.men;
            case 2: return roll.motions;
            case 3: return roll.jurors;
            case 4: return state.day();
            case 5: return fallenMotions();
            case 6: return swornMen();
            case 7: return state.paid();
            case 8: return tapeSize;
            case 9: return past.size;
            case 10: return told;
            case 11: return Integer.bitCount(past.held);
            case 12: return overAll(State.COINS);
            case 13: return menWithSpeech();
            case 14: return overAll(State.SLIPS);
            default: return NONE;
        }
    }

    private void putBytes(int four) {
        for (int shift = 24; shift >= 0; shift -= 8) {
            if (tapeSize < MOST_BYTES) {
                tape[tapeSize] = (byte) (four >> shift);
                tapeSize++;
            }
        }
    }

    private boolean isMan(int man) {
        return man >= 0 && man < roll.men;
    }

    private boolean isMotion(int motion) {
        return motion >= 0 && motion < roll.motions;
    }

    private boolean isSide(int side) {
        return side >= 0 && side < roll.sides;
    }

    private static boolean isManner(int manner) {
        return manner >= 0 && manner < MANNERS;
    }

    private boolean isSilent(int man) {
        return state.get(man, State.TOPIC) == NOT_SO;
    }

    private int speakersOn(int motion) {
        int who = 0;
        for (int man = 0; man < roll.men; man++) {
            if (state.get(man, State.TOPIC) == motion) {
                who |= 1 << man;
            }
        }
        return who;
    }

    private int fallenMotions() {
        int fallen = 0;
        for (int motion = 0; motion < roll.motions; motion++) {
            if (state.fellTo(motion) != NOT_SO) {
                fallen |= 1 << motion;
            }
        }
        return fallen;
    }

    private int swornMen() {
        int who = 0;
        for (int man = 0; man < roll.men; man++) {
            if (state.isSworn(man)) {
                who |= 1 << man;
            }
        }
        return who;
    }

    private int menWithSpeech() {
        int who = 0;
        for (int man = 0; man < roll.men; man++) {
            if (state.get(man, State.KEPT) != NOT_SO) {
                who |= 1 << man;
            }
        }
        return who;
    }

    private int overAll(int field) {
        int all = 0;
        for (int man = 0; man < roll.men; man++) {
            all += state.get(man, field);
        }
        return all;
    }

    /** Leaves his speech in hand, for what is asked of it next. */
    private int totalOf(int man, int slip) {
        speech.take(state, man);
        speech.slip = slip;
        return speech.totalAs(speech.goodness());
    }

    /** One who is to speak does so in a session; his part of the tally. */
    private long hear(int man) {
        speech.take(state, man);
        int lot = lotOfTen(roll.seed, 16 * state.day() + man);
        speech.slip = lot < roll.slipOf(man) ? 1 : 0;
        int good = speech.goodness();
        int total = speech.totalAs(good);
        int fined = Math.min(speech.fineFor(total), state.get(man, State.COINS));
        state.pay(man, fined);
        state.set(man, State.KEPT, good);
        state.set(man, State.SLIPS, state.get(man, State.SLIPS) + speech.slip);
        state.set(man, State.PRAISED, 0);
        state.hush(man);
        return Tally.part(speech.pleads, total);
    }

    private boolean isKnown(int man, int k) {
        for (int t = 0; t < k && t < told; t++) {
            if (toldMan[t] == man) {
                return true;
            }
        }
        return false;
    }

    private boolean isAsTold(int man, int k, int total) {
        for (int t = 0; t < k && t < told; t++) {
            if (toldMan[t] == man && toldSum[t] != total) {
                return false;
            }
        }
        return true;
    }

    /** Of the sets that have all of must and nothing but may: how many (i NONE), else the i-th. */
    private static int setBetween(int must, int may, int i) {
        int found = 0;
        for (int set = 0; set < 1 << MOST_MEN; set++) {
            if ((set & must) == must && (set & ~may) == 0) {
                if (found == i) {
                    return set;
                }
                found++;
            }
        }
        return i == NONE ? found : NONE;
    }

    private static int lessened(int above, int below, boolean wantsBelow) {
        int divisor = below;
        int rest = above;
        for (int i = 0; i < 64 && rest != 0; i++) {
            int next = divisor % rest;
            divisor = rest;
            rest = next;
        }
        int asked = wantsBelow ? below : above;
        return divisor == 0 ? asked : asked / divisor;
    }

    private static int lotOfTen(int seed, int which) {
        int h = stirred(stirred(seed, 65), which);
        return (h >>> 1) % 10;
    }

    private static int stirred(int h, int by) {
        int stirred = (h ^ by) * 1103515245 + 12345;
        return stirred ^ (stirred >>> 15);
    }

    /** Cuts one token after the other out of a text. */
    private static final class Scanner {
        private final long[] words = new long[WORDS.length() / LETTERS];
        private int kind = END;
        private long value = 0;
        private int place = 0;
        private int next = 0;

        Scanner() {
            for (int w = 0; w < words.length; w++) {
                long packed = 0;
                for (int c = w * LETTERS; c < (w + 1) * LETTERS && WORDS.charAt(c) != ' '; c++) {
                    packed = packed * 32 + WORDS.charAt(c) - 'a' + 1;
                }
                words[w] = packed;
            }
        }

        void step(byte[] text, int size, int from) {
            place = from;
            while (place < size && isBlank(text[place])) {
                place++;
            }
            next = place + 1;
            value = 0;
            if (place >= size) {
                kind = END;
            } else if (isLetter(text[place])) {
                takeLetters(text, size);
            } else if (isDigit(text[place])) {
                takeDigits(text, size);
            } else {
                kind = SIGNS.indexOf((char) (text[place] & 255)) < 0 ? BAD : text[place];
            }
        }

        private void takeLetters(byte[] text, int size) {
            next = place;
            while (next < size && isLetter(text[next])) {
                if (next - place < LETTERS) {
                    value = value * 32 + text[next] - 'a' + 1;
                }
                next++;
            }
            kind = next - place > LETTERS ? BAD : NAME;
            for (int w = 0; w < words.length && kind == NAME; w++) {
                if (words[w] == value) {
                    kind = WORD + w;
                }
            }
        }

        private void takeDigits(byte[] text, int size) {
            next = place;
            while (next < size && isDigit(text[next])) {
                if (next - place < DIGITS) {
                    value = value * 10 + text[next] - '0';
                }
                next++;
            }
            kind = next - place > DIGITS ? BAD : INT;
        }

        private static boolean isBlank(byte b) {
            return b == 9 || b == 10 || b == 13 || b == 32;
        }

        private static boolean isLetter(byte b) {
            return b >= 'a' && b <= 'z';
        }

        private static boolean isDigit(byte b) {
            return b >= '0' && b <= '9';
        }
    }

    /** Says of each token whether a text goes on with it, and whether there is room. */
    private static final class Grammar {
        // What must come next.
        private static final int A_TELL = 0;
        private static final int A_FIELD = 1;
        private static final int AN_EQUALS = 2;
        private static final int AN_OPERAND = 3;
        private static final int AN_OPERATOR = 4;
        // Which E of a law it is.
        private static final int FRESH = 0;
        private static final int LEFT_OF_LESS = 1;
        private static final int RIGHT_OF_LESS = 2;
        private static final int THEN_PART = 3;
        private static final int LAST_PART = 4;

        private final int[] times = new int[TELLS];
        private int want = A_TELL;
        private int names = 0;
        private int ints = 0;
        private int section = FRESH;
        private int open = 0;
        private int ifs = 0;

        void begin() {
            for (int sort = 0; sort < TELLS; sort++) {
                times[sort] = 0;
            }
            want = A_TELL;
        }

        boolean mayEnd() {
            return want == A_TELL;
        }

        int faultOf(int kind) {
            switch (want) {
                case A_TELL: return openTell(kind - WORD);
                case A_FIELD: return takeField(kind);
                case AN_EQUALS: return takeEquals(kind);
                case AN_OPERAND: return takeOperand(kind);
                default: return takeOperator(kind);
            }
        }

        private int openTell(int sort) {
            if (sort < 0 || sort >= TELLS) {
                return SYNTAX;
            }
            if (times[sort] >= MOST[sort]) {
                return ROOM;
            }
            times[sort]++;
            if (sort >= LAW_TELL) {
                want = AN_EQUALS;
            } else {
                want = A_FIELD;
                names = NAMES[sort];
                ints = INTS[sort];
            }
            return 0;
        }

        private int takeField(int kind) {
            if (names > 0) {
                names--;
                return kind == NAME ? 0 : SYNTAX;
            }
            if (ints > 0) {
                ints--;
                return kind == INT ? 0 : SYNTAX;
            }
            want = A_TELL;
            return kind == ';' ? 0 : SYNTAX;
        }

        private int takeEquals(int kind) {
            want = AN_OPERAND;
            section = FRESH;
            open = 0;
            ifs = 0;
            return kind == '=' ? 0 : SYNTAX;
        }

        private int takeOperand(int kind) {
            if (kind == WORD_IF) {
                return takeIf();
            }
            if (section == FRESH) {
                section = LAST_PART;
            }
            if (kind == '(') {
                open++;
                return open > MOST_OPEN ? ROOM : 0;
            }
            want = AN_OPERATOR;
            return kind == INT || kind >= WORD_VAR ? 0 : SYNTAX;
        }

        private int takeIf() {
            if (section != FRESH) {
                return SYNTAX;
            }
            section = LEFT_OF_LESS;
            ifs++;
            return ifs > MOST_IFS ? ROOM : 0;
        }

        private int takeOperator(int kind) {
            if (kind == '+' || kind == '-' || kind == '*' || kind == '/') {
                want = AN_OPERAND;
                return 0;
            }
            if (open > 0) {
                open--;
                return kind == ')' ? 0 : SYNTAX;
            }
            return closeSection(kind);
        }

        private int closeSection(int kind) {
            want = AN_OPERAND;
            switch (section) {
                case LEFT_OF_LESS:
                    section = RIGHT_OF_LESS;
                    return kind == '<' ? 0 : SYNTAX;
                case RIGHT_OF_LESS:
                    section = THEN_PART;
                    return kind == WORD_THEN ? 0 : SYNTAX;
                case THEN_PART:
                    section = FRESH;
                    return kind == WORD_ELSE ? 0 : SYNTAX;
                default:
                    want = A_TELL;
                    return kind == ';' ? 0 : SYNTAX;
            }
        }
    }

    /** The tokens of a text as they stand. */
    private static final class Tokens {
        private final int[] kinds = new int[MOST_TOKENS];
        private final long[] values = new long[MOST_TOKENS];
        private final int[] places = new int[MOST_TOKENS];
        private int size = 0;

        void add(int kind, long value, int place) {
            if (size < MOST_TOKENS) {
                kinds[size] = kind;
                values[size] = value;
                places[size] = place;
                size++;
            }
        }

        int kindAt(int at) {
            return at >= 0 && at < size ? kinds[at] : END;
        }

        long valueAt(int at) {
            return at >= 0 && at < size ? values[at] : 0;
        }

        int placeAt(int at) {
            return at >= 0 && at < size ? places[at] : NONE;
        }

        /** The sort of the TELL whose first token this is, else NONE: only a TELL ends in ; . */
        int tellAt(int at) {
            return at == 0 || kindAt(at - 1) == ';' ? kindAt(at) - WORD : NONE;
        }

        boolean isNameTwice(int at) {
            for (int i = 0; i < at && i < size; i++) {
                if (kinds[i] == NAME && values[i] == valueAt(at)) {
                    return true;
                }
            }
            return false;
        }
    }

    /** Finds the fault of a text, and leaves its tokens. */
    private static final class Reader {
        private final Scanner scanner = new Scanner();
        private final Grammar grammar = new Grammar();
        private final Tokens tokens = new Tokens();
        private int place = NONE;

        int faultOf(byte[] text, int size) {
            int fault = faultOfForm(text, size);
            if (fault == 0) {
                fault = faultOfSense(size);
            }
            if (fault == 0) {
                place = NONE;
            }
            return fault;
        }

        private int faultOfForm(byte[] text, int size) {
            grammar.begin();
            tokens.size = 0;
            int from = 0;
            for (int i = 0; i <= MOST_TOKENS; i++) {
                scanner.step(text, size, from);
                place = scanner.place;
                if (scanner.kind == END) {
                    return grammar.mayEnd() ? 0 : SYNTAX;
                }
                int fault = grammar.faultOf(scanner.kind);
                if (fault != 0) {
                    return fault;
                }
                tokens.add(scanner.kind, scanner.value, scanner.place);
                from = scanner.next;
            }
            return ROOM;
        }

        private int faultOfSense(int size) {
            int sides = 2;
            int farthest = 0;
            for (int at = 0; at < tokens.size; at++) {
                int sort = tokens.tellAt(at);
                if (sort < 0 || sort >= LAW_TELL) {
                    continue;
                }
                int fault = faultOfTell(at, sort);
                if (fault != 0) {
                    return fault;
                }
                if (sort == SIDES_TELL) {
                    sides = (int) tokens.valueAt(at + 1);
                } else if (sort == MAN_TELL || sort == JUROR_TELL) {
                    farthest = Math.max(farthest, (int) tokens.valueAt(at + 2));
                }
            }
            place = size;
            return farthest >= sides ? WRONG : 0;
        }

        private int faultOfTell(int at, int sort) {
            int first = at + 1 + NAMES[sort];
            if (NAMES[sort] > 0 && tokens.isNameTwice(at + 1)) {
                place = tokens.placeAt(at + 1);
                return TWICE;
            }
            for (int i = 0; i < INTS[sort]; i++) {
                long value = tokens.valueAt(first + i);
                if (value < LOW[sort * ROW + i] || value > HIGH[sort * ROW + i]) {
                    place = tokens.placeAt(first + i);
                    return WRONG;
                }
            }
            return 0;
        }
    }

    /** The three laws as steps over a stack of numbers; a step is a sign, or one of those below. */
    private static final class Laws {
        private static final int PUT = 0;
        private static final int LOOK = 1;
        private static final int STOP = 2;
        private static final int LOOSEST = 1;
        /** A law that is told takes no more steps than it has tokens; one not told takes two. */
        private static final int MOST_STEPS = MOST_TOKENS + 2 * LAWS;

        private final int[] steps = new int[MOST_STEPS];
        private final int[] args = new int[MOST_STEPS];
        private final int[] starts = new int[LAWS];
        private final int[] numbers = new int[MOST_STEPS];
        private final int[] waiting = new int[MOST_TOKENS];
        private int size = 0;
        private int waits = 0;

        void begin() {
            size = 0;
            starts[ARGUES] = size;
            addStep(LOOK, SKILL);
            addStep(STOP, 0);
            starts[MARKS] = size;
            addStep(LOOK, GOOD);
            addStep(STOP, 0);
            starts[FINES] = size;
            addStep(PUT, 0);
            addStep(STOP, 0);
        }

        void take(int law, Tokens tokens, int from) {
            starts[law] = size;
            waits = 0;
            int lastIf = 0;
            for (int at = from; at < tokens.size; at++) {
                int kind = tokens.kindAt(at);
                if (kind == INT) {
                    addStep(PUT, (int) tokens.valueAt(at));
                } else if (kind >= WORD_VAR) {
                    addStep(LOOK, kind - WORD_VAR);
                } else if (kind == WORD_THEN) {
                    release(LOOSEST);
                    lastIf = size;
                    addStep('<', 0);
                } else if (kind == WORD_ELSE) {
                    release(LOOSEST);
                    addStep(STOP, 0);
                    leadOn(lastIf);
                } else if (kind == ';') {
                    release(LOOSEST);
                    addStep(STOP, 0);
                    return;
                } else {
                    takeSign(kind);
                }
            }
        }

        /** Where to go on from an if that does not hold. */
        private void leadOn(int from) {
            if (from < size) {
                args[from] = size;
            }
        }

        private void takeSign(int kind) {
            if (kind == '<') {
                release(LOOSEST);
            } else if (kind == ')') {
                release(LOOSEST);
                waits = Math.max(0, waits - 1);
            } else if (kind != WORD_IF) {
                if (kind != '(') {
                    release(rank(kind));
                }
                if (waits < MOST_TOKENS) {
                    waiting[waits] = kind;
                    waits++;
                }
            }
        }

        /** Signs that wait and bind so closely or closer become steps. */
        private void release(int rank) {
            while (waits > 0 && rank(waiting[waits - 1]) >= rank) {
                waits--;
                addStep(waiting[waits], 0);
            }
        }

        private static int rank(int sign) {
            return sign == '(' ? 0 : sign == '*' || sign == '/' ? LOOSEST + 1 : LOOSEST;
        }

        private void addStep(int step, int arg) {
            if (size < MOST_STEPS) {
                steps[size] = step;
                args[size] = arg;
                size++;
            }
        }

        int value(int law, int[] vars) {
            int top = 0;
            for (int at = starts[law]; at < size && top < MOST_STEPS; at++) {
                int step = steps[at];
                if (step == PUT || step == LOOK) {
                    int arg = args[at];
                    boolean looks = step == LOOK && arg >= 0 && arg < vars.length;
                    numbers[top] = looks ? vars[arg] : arg;
                    top++;
                } else if (step == STOP) {
                    return top > 0 ? numbers[top - 1] : 0;
                } else if (top < 2) {
                    return 0;
                } else {
                    int right = numbers[top - 1];
                    int left = numbers[top - 2];
                    top--;
                    switch (step) {
                        case '+': numbers[top - 1] = left + right;
                            break;
                        case '-': numbers[top - 1] = left - right;
                            break;
                        case '*': numbers[top - 1] = left * right;
                            break;
                        case '/':
                            if (right == 0) {
                                return 0;
                            }
                            numbers[top - 1] = left / right;
                            break;
                        default:
                            // '<': on to the next if, unless this one holds; the loop goes one on by itself.
                            top--;
                            at = left < right ? at : Math.max(at, args[at] - 1);
                    }
                }
            }
            return 0;
        }
    }

    /** What the text tells. */
    private static final class Roll {
        private static final int TOLD_SIDE = 0;
        private static final int TOLD_SKILL = 1;
        private static final int TOLD_SLIP = 2;
        private static final int TOLD_COINS = 3;

        private int sides = 2;
        private int seed = 0;
        private int men = 0;
        private int motions = 0;
        private int jurors = 0;
        private final int[] manRows = new int[MOST_MEN * ROW];
        private final int[] worths = new int[MOST_MOTIONS * MOST_SIDES];
        private final int[] leans = new int[MOST_JURORS];
        private final Laws laws = new Laws();

        Roll() {
            laws.begin();
        }

        /** The text has no fault. */
        void fill(Tokens tokens) {
            sides = 2;
            seed = 0;
            men = 0;
            motions = 0;
            jurors = 0;
            laws.begin();
            for (int at = 0; at < tokens.size; at++) {
                int sort = tokens.tellAt(at);
                if (sort >= LAW_TELL && sort < TELLS) {
                    laws.take(sort - LAW_TELL, tokens, at + 2);
                } else if (sort >= 0) {
                    takeTell(sort, tokens, at + 1);
                }
            }
        }

        private void takeTell(int sort, Tokens tokens, int at) {
            if (sort == SIDES_TELL) {
                sides = (int) tokens.valueAt(at);
            } else if (sort == SEED_TELL) {
                seed = (int) tokens.valueAt(at);
            } else if (sort == MAN_TELL && men < MOST_MEN) {
                for (int i = 0; i < ROW; i++) {
                    manRows[men * ROW + i] = (int) tokens.valueAt(at + 1 + i);
                }
                men++;
            } else if (sort == MOTION_TELL && motions < MOST_MOTIONS) {
                for (int side = 0; side < MOST_SIDES; side++) {
                    worths[motions * MOST_SIDES + side] = (int) tokens.valueAt(at + 1 + side);
                }
                motions++;
            } else if (sort == JUROR_TELL && jurors < MOST_JURORS) {
                leans[jurors] = (int) tokens.valueAt(at + 1);
                jurors++;
            }
        }

        int toldOf(int man, int what) {
            return manRows[man * ROW + what];
        }

        int slipOf(int man) {
            return toldOf(man, TOLD_SLIP);
        }

        int worthOf(int motion, int side) {
            return worths[motion * MOST_SIDES + side];
        }
    }

    /** What goes on, all in one row, so that it is held and gone back to by copying that. */
    private static final class State {
        private static final int SIDE = 0;
        /** The side that he left, or NOT_SO: he is not sworn. */
        private static final int LEFT = 1;
        private static final int COINS = 2;
        private static final int TOPIC = 3;
        private static final int MANNER_NOW = 4;
        private static final int PRAISED = 5;
        private static final int KEPT = 6;
        private static final int READS = 7;
        /** Its own copy: the other one may have spoken anew since. */
        private static final int READ_GOOD = 8;
        private static final int SLIPS = 9;
        private static final int FIELDS = 10;
        private static final int FALLEN_AT = MOST_MEN * FIELDS;
        private static final int DAY_AT = FALLEN_AT + MOST_MOTIONS;
        private static final int PAID_AT = DAY_AT + 1;
        private static final int SIZE = PAID_AT + 1;

        private final int[] row = new int[SIZE];

        void begin(Roll roll) {
            for (int man = 0; man < MOST_MEN; man++) {
                set(man, SIDE, roll.toldOf(man, Roll.TOLD_SIDE));
                set(man, LEFT, NOT_SO);
                set(man, COINS, roll.toldOf(man, Roll.TOLD_COINS));
                set(man, PRAISED, 0);
                set(man, KEPT, NOT_SO);
                set(man, SLIPS, 0);
                hush(man);
            }
            for (int motion = 0; motion < MOST_MOTIONS; motion++) {
                row[FALLEN_AT + motion] = NOT_SO;
            }
            row[DAY_AT] = 0;
            row[PAID_AT] = 0;
        }

        int get(int man, int field) {
            return row[man * FIELDS + field];
        }

        void set(int man, int field, int value) {
            row[man * FIELDS + field] = value;
        }

        void hush(int man) {
            set(man, TOPIC, NOT_SO);
            set(man, MANNER_NOW, NOT_SO);
            set(man, READS, NOT_SO);
            set(man, READ_GOOD, NONE);
        }

        boolean isSworn(int man) {
            return get(man, LEFT) != NOT_SO;
        }

        int pleadsFor(int man, int sides) {
            int left = get(man, LEFT);
            return left == NOT_SO ? behind(get(man, SIDE), sides) : left;
        }

        static int behind(int side, int sides) {
            return side + 1 < sides ? side + 1 : 0;
        }

        void pay(int man, int fined) {
            set(man, COINS, get(man, COINS) - fined);
            row[PAID_AT] += fined;
        }

        int paid() {
            return row[PAID_AT];
        }

        int day() {
            return row[DAY_AT];
        }

        int fellTo(int motion) {
            return row[FALLEN_AT + motion];
        }

        void fall(int motion, int side) {
            row[FALLEN_AT + motion] = side;
            row[DAY_AT]++;
        }
    }

    /** What can be undone, in a ring of rows, and what slots hold. */
    private static final class Past {
        private final int[][] done = new int[MOST_UNDONE][State.SIZE];
        private final int[][] slots = new int[SLOTS][State.SIZE];
        private int next = 0;
        private int size = 0;
        /** Bits of the slots that hold something. */
        private int held = 0;

        void clear() {
            size = 0;
            held = 0;
        }

        void keep(State state) {
            copyRow(state.row, done[next]);
            next = next + 1 < MOST_UNDONE ? next + 1 : 0;
            size = Math.min(size + 1, MOST_UNDONE);
        }

        boolean takeBack(State state) {
            if (size == 0) {
                return false;
            }
            size--;
            next = next > 0 ? next - 1 : MOST_UNDONE - 1;
            copyRow(done[next], state.row);
            return true;
        }

        void putInSlot(int slot, State state) {
            copyRow(state.row, slots[slot]);
            held |= 1 << slot;
        }

        boolean takeFromSlot(int slot, State state) {
            if ((held >> slot & 1) == 0) {
                return false;
            }
            copyRow(slots[slot], state.row);
            size = 0;
            return true;
        }

        private static void copyRow(int[] from, int[] to) {
            System.arraycopy(from, 0, to, 0, State.SIZE);
        }
    }

    /** One speech: taken as a man is to speak it, then changed as a question asks. */
    private static final class Speech {
        private final Roll roll;
        private final int[] vars = new int[VARS];
        private int man = 0;
        private int skill = 0;
        private int pleads = 0;
        private int manner = 0;
        private int slip = 0;
        private int praise = 0;
        private int day = 0;
        private int sworn = 0;
        /** The GOOD of an old speech that is read, else NONE. */
        private int old = NONE;

        Speech(Roll roll) {
            this.roll = roll;
        }

        void take(State state, int who) {
            man = who;
            skill = roll.toldOf(who, Roll.TOLD_SKILL);
            pleads = state.pleadsFor(who, roll.sides);
            manner = state.get(who, State.MANNER_NOW);
            slip = 0;
            praise = state.get(who, State.PRAISED);
            day = state.day();
            sworn = state.isSworn(who) ? 1 : 0;
            old = state.get(who, State.READ_GOOD);
        }

        int goodness() {
            if (old != NONE) {
                return old;
            }
            setVars(praise, 0, 0, man);
            return Math.max(0, Math.min(MOST_GOOD, roll.laws.value(ARGUES, vars)));
        }

        int markBy(int juror, int good) {
            if (manner == MUMBLED) {
                return 4;
            }
            setVars(praise, good, roll.leans[juror] == pleads ? 1 : 0, juror);
            int mark = Math.max(1, Math.min(9, roll.laws.value(MARKS, vars)));
            if (manner == JOKE && mark % 2 == 1) {
                return mark == 1 ? 2 : mark - 1;
            }
            return mark;
        }

        int totalAs(int good) {
            int total = 0;
            for (int juror = 0; juror < roll.jurors; juror++) {
                total += markBy(juror, good);
            }
            return total;
        }

        long entry() {
            return Tally.part(pleads, totalAs(goodness()));
        }

        /** What the law asks for it, however much he has. */
        int fineFor(int total) {
            setVars(0, roll.jurors > 0 ? total / roll.jurors : 0, 0, man);
            return Math.max(0, Math.min(99, roll.laws.value(FINES, vars)));
        }

        private void setVars(int praised, int good, int lean, int which) {
            vars[SKILL] = skill;
            vars[MANNER] = manner;
            vars[SLIP] = slip;
            vars[PRAISE] = praised;
            vars[DAY] = day;
            vars[GOOD] = good;
            vars[LEAN] = lean;
            vars[WHICH] = which;
            vars[SWORN] = sworn;
        }
    }

    /**
     * Sums for each side as one number, so that speeches are put in and taken out by + and -: 16 bits
     * a side, the lower 12 its sums together (504 at most), the upper 4 how many speeches (7 at most).
     */
    private static final class Tally {
        private static final int ONE = 1 << 12;

        static long part(int side, int sum) {
            return (long) (ONE + sum) << 16 * side;
        }

        static int total(long bag, int side) {
            return (int) (bag >>> 16 * side) & (ONE - 1);
        }

        static int speeches(long bag, int side) {
            return (int) (bag >>> 16 * side + 12) & 15;
        }

        /** NOT_SO where nobody speaks or nobody marks: a speech that is marked has 1 or more. */
        static int winner(long bag) {
            return greatestBut(bag, NONE);
        }

        /** Written out, for nothing is asked as often: most total by most speeches is the greatest mean yet. */
        private static int greatestBut(long bag, int left) {
            int best = NOT_SO;
            int mostTotal = 0;
            int mostSpeeches = 1;
            for (int side = 0; side < MOST_SIDES; side++) {
                int lane = (int) (bag >>> 16 * side);
                int total = lane & ONE - 1;
                int speeches = lane >>> 12 & 15;
                if (side != left && total * mostSpeeches > mostTotal * speeches) {
                    best = side;
                    mostTotal = total;
                    mostSpeeches = speeches;
                }
            }
            return best;
        }

        /** How much more one side has in the mean than another, times the speeches of both. */
        private static int over(long bag, int side, int other) {
            return total(bag, side) * speeches(bag, other) - total(bag, other) * speeches(bag, side);
        }

        static int lead(long bag) {
            int first = winner(bag);
            int second = greatestBut(bag, first);
            return first == NOT_SO || second == NOT_SO ? NOT_SO : hundredfold(bag, first, second);
        }

        private static int hundredfold(long bag, int side, int other) {
            int both = speeches(bag, side) * speeches(bag, other);
            return both == 0 ? 0 : 100 * over(bag, side, other) / both;
        }

        private static int least(long bag) {
            int least = NOT_SO;
            for (int side = 0; side < MOST_SIDES; side++) {
                if (total(bag, side) > 0 && (least == NOT_SO || over(bag, side, least) < 0)) {
                    least = side;
                }
            }
            return least;
        }

        /** How far the greatest and the least one are apart, 100 times. */
        static int apart(long bag) {
            int most = winner(bag);
            int least = least(bag);
            return most == NOT_SO || least == NOT_SO ? 0 : hundredfold(bag, most, least);
        }

        /** Likewise, to be compared among bags with as many speeches for each side. */
        static int apartExactly(long bag) {
            int most = winner(bag);
            int least = least(bag);
            if (most == NOT_SO || least == NOT_SO) {
                return 0;
            }
            int both = speeches(bag, most) * speeches(bag, least);
            int all = 1;
            for (int side = 0; side < MOST_SIDES; side++) {
                int factor = Math.max(1, speeches(bag, side));
                all *= factor * factor;
            }
            return both == 0 ? 0 : over(bag, most, least) * (all / both);
        }
    }

    /** All speeches on a motion, each as it is, and as it were in one other way: slipped, sworn over .. */
    private static final class Debate {
        private static final int SETS = 1 << MOST_MEN;

        private final Roll roll;
        private final State state;
        private final Speech speech;
        private final int[] who = new int[MOST_MEN];
        private int size = 0;
        private int day = 0;
        private final long[] usual = new long[MOST_MEN];
        private final long[] turned = new long[MOST_MEN];
        /** By sets of those who are turned. */
        private final long[] bags = new long[SETS];
        private final int[] falls = new int[SETS];
        private final int[] weights = new int[SETS];
        /** What each juror marks, and, apart from that, how many speeches there are. */
        private final long[] jurorBags = new long[MOST_JURORS];
        private long speeches = 0;
        private final int[] pickers = new int[MOST_CHOOSERS];
        private int picking = 0;
        private int picked = 0;
        private final long[] usualBy = new long[MOST_CHOOSERS * MANNERS];
        private final long[] turnedBy = new long[MOST_CHOOSERS * MANNERS];

        Debate(Roll roll, State state, Speech speech) {
            this.roll = roll;
            this.state = state;
            this.speech = speech;
        }

        void gather(int motion, int onDay) {
            day = onDay;
            size = 0;
            for (int man = 0; man < roll.men; man++) {
                if (state.get(man, State.TOPIC) == motion && size < MOST_MEN) {
                    who[size] = man;
                    takeSpeech(size);
                    usual[size] = speech.entry();
                    size++;
                }
            }
        }

        private void takeSpeech(int at) {
            speech.take(state, who[at]);
            speech.day = day;
        }

        long asItIs() {
            long bag = 0;
            for (int at = 0; at < size; at++) {
                bag += usual[at];
            }
            return bag;
        }

        void turnBySlip() {
            for (int at = 0; at < size; at++) {
                takeSpeech(at);
                speech.slip = 1;
                turned[at] = speech.entry();
            }
        }

        private void turnByOath() {
            for (int at = 0; at < size; at++) {
                takeSpeech(at);
                speech.pleads = state.get(who[at], State.SIDE);
                speech.sworn = 1;
                turned[at] = speech.entry();
            }
        }

        private void turnByMumble() {
            for (int at = 0; at < size; at++) {
                takeSpeech(at);
                speech.manner = MUMBLED;
                turned[at] = speech.entry();
            }
        }

        private void fillBags() {
            bags[0] = asItIs();
            for (int set = 1; set < 1 << size; set++) {
                int first = Integer.numberOfTrailingZeros(set);
                bags[set] = bags[set & set - 1] - usual[first] + turned[first];
            }
        }

        private int menOf(int set) {
            int men = 0;
            for (int at = 0; at < size; at++) {
                men |= (set >> at & 1) << who[at];
            }
            return men;
        }

        /** How likely each set of slips is, of allChances(). */
        void weigh() {
            for (int set = 0; set < 1 << size; set++) {
                int weight = 1;
                for (int at = 0; at < size; at++) {
                    int slip = roll.slipOf(who[at]);
                    weight *= (set >> at & 1) == 1 ? slip : 10 - slip;
                }
                weights[set] = weight;
            }
        }

        int allChances() {
            int all = 1;
            for (int at = 0; at < size; at++) {
                all *= 10;
            }
            return all;
        }

        /** Once it is weighed, and turned by slips. */
        int chanceOf(int side) {
            fillBags();
            int chance = 0;
            for (int set = 0; set < 1 << size; set++) {
                if (weights[set] > 0 && Tally.winner(bags[set]) == side) {
                    chance += weights[set];
                }
            }
            return chance;
        }

        int whoChanges(int side) {
            turnByOath();
            fillBags();
            int best = NOT_SO;
            for (int set = 0; set < 1 << size; set++) {
                if (Tally.winner(bags[set]) == side && maySwear(set)
                    && (best == NOT_SO || Integer.bitCount(set) < Integer.bitCount(best))) {
                    best = set;
                }
            }
            return best == NOT_SO ? NOT_SO : menOf(best);
        }

        private boolean maySwear(int set) {
            for (int at = 0; at < size; at++) {
                if ((set >> at & 1) == 1 && state.isSworn(who[at])) {
                    return false;
                }
            }
            return true;
        }

        /** The best manners are picked then; how likely it is with them. */
        int pickManners(int side) {
            weigh();
            turnBySlip();
            gatherPickers(side);
            int best = NONE;
            for (int pick = 0; pick < 1 << 2 * picking; pick++) {
                for (int p = 0; p < picking; p++) {
                    usual[pickers[p]] = usualBy[p * MANNERS + mannerIn(pick, p)];
                    turned[pickers[p]] = turnedBy[p * MANNERS + mannerIn(pick, p)];
                }
                int chance = chanceOf(side);
                if (chance > best) {
                    best = chance;
                    picked = pick;
                }
            }
            return best;
        }

        private void gatherPickers(int side) {
            picking = 0;
            for (int at = 0; at < size && picking < MOST_CHOOSERS; at++) {
                if (state.get(who[at], State.SIDE) == side) {
                    pickers[picking] = at;
                    takeSpeech(at);
                    for (int manner = 0; manner < MANNERS; manner++) {
                        speech.manner = manner;
                        speech.slip = 0;
                        usualBy[picking * MANNERS + manner] = speech.entry();
                        speech.slip = 1;
                        turnedBy[picking * MANNERS + manner] = speech.entry();
                    }
                    picking++;
                }
            }
        }

        /** The first one's manner is the highest of a pick, so that picks by number are in order. */
        private int mannerIn(int pick, int p) {
            return pick >> 2 * (picking - 1 - p) & 3;
        }

        int pickedManner(int i) {
            return i >= 0 && i < picking ? mannerIn(picked, i) : NONE;
        }

        int rest(int motion, int i) {
            turnByMumble();
            fillBags();
            for (int set = 0; set < 1 << size; set++) {
                falls[set] = Tally.winner(bags[set]);
            }
            int found = 0;
            for (int set = 0; set < 1 << size; set++) {
                if (isRest(motion, set)) {
                    if (found == i) {
                        return menOf(set);
                    }
                    found++;
                }
            }
            return i == NONE ? found : NONE;
        }

        private boolean isRest(int motion, int set) {
            for (int at = 0; at < size; at++) {
                int side = state.get(who[at], State.SIDE);
                boolean gains = falls[set] != side && falls[set ^ 1 << at] == side;
                if (gains && roll.worthOf(motion, side) > 0) {
                    return false;
                }
            }
            return true;
        }

        void gatherJurors() {
            speeches = 0;
            for (int juror = 0; juror < roll.jurors; juror++) {
                jurorBags[juror] = 0;
            }
            for (int at = 0; at < size; at++) {
                takeSpeech(at);
                int good = speech.goodness();
                long one = Tally.part(speech.pleads, 0);
                speeches += one;
                for (int juror = 0; juror < roll.jurors; juror++) {
                    jurorBags[juror] += Tally.part(speech.pleads, speech.markBy(juror, good)) - one;
                }
            }
        }

        /** What some jurors mark together. */
        long bagOf(int jurors) {
            long bag = speeches;
            for (int juror = 0; juror < roll.jurors; juror++) {
                if ((jurors >> juror & 1) == 1) {
                    bag += jurorBags[juror];
                }
            }
            return bag;
        }

        int fairest(int n) {
            int best = NOT_SO;
            int least = 0;
            for (int jurors = 1; jurors < 1 << roll.jurors; jurors++) {
                if (Integer.bitCount(jurors) == n) {
                    int apart = Tally.apartExactly(bagOf(jurors));
                    if (best == NOT_SO || apart < least) {
                        best = jurors;
                        least = apart;
                    }
                }
            }
            return best;
        }

        int harshest(boolean kind) {
            int best = NOT_SO;
            int most = 0;
            for (int juror = 0; juror < roll.jurors; juror++) {
                int given = 0;
                for (int side = 0; side < MOST_SIDES; side++) {
                    given += Tally.total(jurorBags[juror], side);
                }
                if (best == NOT_SO || (kind ? given > most : given < most)) {
                    best = juror;
                    most = given;
                }
            }
            return best;
        }

        /** Once it is turned by slips: by how many seeds from the text's on it falls to a side. */
        int fallsBySeeds(int side, int seeds) {
            int times = 0;
            for (int seed = roll.seed; seed < roll.seed + seeds; seed++) {
                long bag = 0;
                for (int at = 0; at < size; at++) {
                    boolean slips = lotOfTen(seed, 16 * day + who[at]) < roll.slipOf(who[at]);
                    bag += slips ? turned[at] : usual[at];
                }
                if (Tally.winner(bag) == side) {
                    times++;
                }
            }
            return times;
        }
    }
}
