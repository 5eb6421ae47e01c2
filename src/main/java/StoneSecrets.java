import java.util.Arrays;
import java.util.NoSuchElementException;

/**
 * Secrets told to stones, and the wall that these are set on.
 *
 * Sets of SOULS and of PLACES are bits of an int. A stone's SPOT is the bit of its PLACE, 0 if it stands nowhere:
 * what is right beside a SPOT is then a shift away, and a wall is one row of SPOTS by SOULS.
 * All rows are made in the constructors and used again, so that no call makes an object.
 */
public final class StoneSecrets {
    public static final int NONE = -1;

    private static final int OTHERS = -2;

    private static final int MOST_SIGNS = 1000;
    private static final int MOST_LETTERS = 8;
    private static final int MOST_DIGITS = 4;
    private static final int MOST_PLACES = 8;
    private static final int MOST_SOULS = 6;
    private static final int MOST_SECRET = 20;
    private static final int MOST_DUE = 60;
    private static final int MOST_FROSTS = 12;
    private static final int MOST_COLD = 9;
    private static final int MOST_LINES = 40;
    private static final int MOST_DEPTH = 5;
    private static final int MOST_SEEN = 8;
    private static final int MOST_SEEN_WEIGHT = 60;
    private static final int MOST_UNDONE = 16;
    private static final int MARKS = 4;
    private static final int HORIZON = 60;
    private static final int BEST_HORIZON = 30;
    private static final int SETS_OF_SOULS = 1 << MOST_SOULS;
    /** Above every stone's weight (a priest's 41), so that it can part the rows of a tally. */
    private static final int WEIGHTS = 64;
    /** Far above what any search can need: 6 stones on 8 PLACES have 20,160 WAYS. */
    private static final int MANY = 1000000;

    private static final int PLAIN = 0;
    private static final int BOY = 1;
    private static final int PRIEST = 2;
    private static final int LORD = 3;

    private static final int KEPT = 0;
    private static final int CARRIED = 1;
    private static final int SET = 2;
    private static final int FALLEN = 3;
    private static final int OUT = 4;

    private static final int DEED_WEEK = 0;
    private static final int DEED_TELL = 1;
    private static final int DEED_SET = 2;
    private static final int DEED_TAKE = 3;

    private static final int NO_TOKEN = 1;
    private static final int NOT_TOLD = 2;
    private static final int TOLD_TWICE = 3;
    private static final int BAD_NUMBER = 4;
    private static final int TOO_MANY = 5;

    /** Kinds of tokens: these four, a sign by its own number, a word of the language by FIRST_WORD and its row. */
    private static final int END = 0;
    private static final int NOTHING = 1;
    private static final int NAME = 2;
    private static final int NUMBER = 3;
    private static final int FIRST_WORD = 128;
    private static final int WORD_WALL = 128;
    private static final int WORD_SOUL = 129;
    private static final int WORD_SECRET = 130;
    private static final int WORD_DUE = 131;
    private static final int WORD_HURTS = 132;
    private static final int WORD_FROST = 133;
    private static final int WORD_FALLS = 134;
    private static final int WORD_WEEK = 135;
    private static final int WORD_TELL = 136;
    private static final int WORD_SET = 137;
    private static final int WORD_TAKE = 138;
    private static final int WORD_PLAIN = 139;
    private static final int WORD_LORD = 142;
    private static final int WORD_NOT = 143;
    private static final int WORD_AND = 144;
    private static final int WORD_OR = 145;

    /** A WORD has 8 letters at most, so one long holds it, a byte a letter, the last letter lowest. */
    private static final long[] LANGUAGE = {
        0x77616c6cL, // wall
        0x736f756cL, // soul
        0x736563726574L, // secret
        0x647565L, // due
        0x6875727473L, // hurts
        0x66726f7374L, // frost
        0x66616c6c73L, // falls
        0x7765656bL, // week
        0x74656c6cL, // tell
        0x736574L, // set
        0x74616b65L, // take
        0x706c61696eL, // plain
        0x626f79L, // boy
        0x707269657374L, // priest
        0x6c6f7264L, // lord
        0x6e6f74L, // not
        0x616e64L, // and
        0x6f72L, // or
    };
    private static final long FACT_WEIGHT = 0x776569676874L;
    private static final long FACT_COLD = 0x636f6c64L;
    private static final long FACT_BESIDE = 0x626573696465L;
    private static final long FACT_DATE = 0x64617465L;

    private final Tape tape;
    private final Valley valley;
    private final Valley draftValley;
    private final Year year;
    private final Year draftYear;
    private final Wall now;
    private final Wall trial;
    private final Past past;
    private final Seen seen;
    private final Ways ways;
    private final Future future;
    private final Feuds feuds;
    private final int[] tallies;

    public StoneSecrets() {
        tape = new Tape();
        valley = new Valley();
        draftValley = new Valley();
        year = new Year();
        draftYear = new Year();
        now = new Wall(valley);
        trial = new Wall(valley);
        past = new Past(valley);
        seen = new Seen();
        ways = new Ways(valley);
        future = new Future(valley);
        feuds = new Feuds(valley);
        tallies = new int[MOST_PLACES * WEIGHTS];
    }

    public int feed(long a, long b, long c) {
        tape.addBytes(a);
        tape.addBytes(b);
        tape.addBytes(c);
        return tape.length;
    }

    public int valley() {
        tape.open();
        boolean right = draftValley.read(tape);
        tape.empty();
        if (!right) {
            return tape.fault;
        }
        valley.copyFrom(draftValley);
        year.lines = 0;
        seen.size = 0;
        now.begin();
        past.forgetAll();
        return 0;
    }

    public int year() {
        tape.open();
        boolean right = draftYear.read(tape, valley);
        tape.empty();
        if (!right) {
            return tape.fault;
        }
        year.copyFrom(draftYear);
        return 0;
    }

    public int soul(int soul, int what) {
        if (!valley.hasSoul(soul)) {
            return OTHERS;
        }
        switch (what) {
            case 0:
                return valley.kinds[soul];
            case 1:
                return valley.secrets[soul];
            case 2:
                return valley.dues[soul];
            case 3:
                return valley.weights[soul];
            case 4:
                return now.states[soul];
            case 5:
                return placeOf(now.spots[soul]);
            default:
                return OTHERS;
        }
    }

    public int stands(int place) {
        return valley.hasPlace(place) ? now.standing(1 << place) : NONE;
    }

    public boolean tell(int soul) {
        return act(DEED_TELL, soul, NONE);
    }

    public boolean sets(int soul, int place) {
        return act(DEED_SET, soul, place);
    }

    public int take(int soul) {
        int ahead = valley.hasSoul(soul) ? placeOf(now.spots[soul]) : NONE;
        return act(DEED_TAKE, soul, NONE) ? ahead : NONE;
    }

    public int week() {
        past.keep(now);
        return now.passWeek(valley.coldOf(now.date));
    }

    public boolean undo() {
        return past.bringBack(now);
    }

    public int judged(int what) {
        if (what < 0 || what > 2) {
            return OTHERS;
        }
        int impossible = NONE;
        int leaked = NONE;
        trial.begin();
        for (int line = 0; line < year.lines; line++) {
            boolean done = trial.attempt(year.deeds[line], year.souls[line], year.places[line]);
            if (!done && impossible == NONE) {
                impossible = line;
            }
            if (leaked == NONE && trial.who(OUT) != 0) {
                leaked = line;
            }
        }
        if (what == 2) {
            return Integer.bitCount(trial.who(SET));
        }
        return what == 0 ? impossible : leaked;
    }

    public int may(int soul) {
        return now.isLoose(soul) ? valley.openTo(soul, now.spots) : NONE;
    }

    public int falls(int soul) {
        if (!now.is(soul, SET)) {
            return NONE;
        }
        foresee();
        int behind = future.fallen[soul];
        return behind > 0 ? behind : NONE;
    }

    public int blurts(int soul) {
        if (!now.is(soul, KEPT) || !valley.canLeak(soul)) {
            return NONE;
        }
        int behind = Math.max(valley.dues[soul] - now.date, 0) + 1;
        return behind <= HORIZON ? behind : NONE;
    }

    public int later(int weeks) {
        if (weeks < 0 || weeks > HORIZON) {
            return NONE;
        }
        foresee();
        return future.standingBehind(weeks);
    }

    public int bare() {
        foresee();
        for (int weeks = 0; weeks <= HORIZON; weeks++) {
            if (future.standingBehind(weeks) == 0) {
                return weeks;
            }
        }
        return NONE;
    }

    public int first() {
        foresee();
        int soonest = NONE;
        for (int soul = 0; soul < valley.souls; soul++) {
            int behind = future.fallen[soul];
            if (behind > 0 && (soonest == NONE || behind < future.fallen[soonest])) {
                soonest = soul;
            }
        }
        return soonest;
    }

    public int least(int soul) {
        if (!now.is(soul, SET)) {
            return NONE;
        }
        int neighbours = Integer.bitCount(besideSpot(now.spots[soul]) & taken(now.spots));
        for (int cold = 0; cold <= MOST_COLD; cold++) {
            if (valley.drops(soul, cold, neighbours, now.date)) {
                return cold;
            }
        }
        return NONE;
    }

    public int ways() {
        beginWays();
        int number = 0;
        while (number < MANY && ways.next()) {
            number++;
        }
        return number;
    }

    public int way(int number, int soul) {
        if (number < 0 || !now.isStone(soul)) {
            return NONE;
        }
        beginWays();
        for (int i = 0; i < MANY && ways.next(); i++) {
            if (i == number) {
                return placeOf(ways.spots[soul]);
            }
        }
        return NONE;
    }

    public int times(int soul, int place) {
        if (!valley.hasSoul(soul) || !valley.hasPlace(place)) {
            return NONE;
        }
        int number = 0;
        beginWays();
        for (int i = 0; i < MANY && ways.next(); i++) {
            if (ways.spots[soul] == 1 << place) {
                number++;
            }
        }
        return number;
    }

    public int sure(int soul) {
        if (!now.isStone(soul)) {
            return NONE;
        }
        int spot = 0;
        beginWays();
        for (int i = 0; i < MANY && ways.next(); i++) {
            if (i > 0 && ways.spots[soul] != spot) {
                return NONE;
            }
            spot = ways.spots[soul];
        }
        return placeOf(spot);
    }

    public int most() {
        return Integer.bitCount(fullestSet());
    }

    public int fullest() {
        return fullestSet();
    }

    public int clear() {
        int loose = now.loose();
        int standing = now.who(SET);
        int fewest = NONE;
        for (int lifted = 0; lifted < SETS_OF_SOULS; lifted++) {
            boolean better = fewest == NONE || Integer.bitCount(lifted) < Integer.bitCount(fewest);
            if (better && isWithin(lifted, standing) && ways.isAny(now.spots, loose | lifted, standing & ~lifted)) {
                fewest = lifted;
            }
        }
        return fewest;
    }

    public int best(int weeks, int what) {
        if (weeks < 0 || weeks > BEST_HORIZON || what < 0 || what > 1) {
            return NONE;
        }
        int stones = now.loose() | now.who(SET);
        int all = Integer.bitCount(stones);
        int most = NONE;
        int number = NONE;
        future.prepare(now.date, weeks, stones);
        beginWays();
        for (int i = 0; i < MANY && most < all && ways.next(); i++) {
            future.run(ways.spots);
            int standing = Integer.bitCount(future.standingBehind(weeks));
            if (standing > most) {
                most = standing;
                number = i;
            }
        }
        return what == 0 ? most : number;
    }

    public int lean() {
        return valley.leanOf(now.spots);
    }

    public int even(int what) {
        if (what < 0 || what > 1) {
            return NONE;
        }
        int least = NONE;
        int number = NONE;
        beginWays();
        for (int i = 0; i < MANY && least != 0 && ways.next(); i++) {
            int leaning = valley.leanOf(ways.spots);
            if (least == NONE || leaning < least) {
                least = leaning;
                number = i;
            }
        }
        return what == 0 ? least : number;
    }

    public int colours() {
        return feuds.paint(now.notOut());
    }

    public int colour(int soul) {
        if (!valley.hasSoul(soul) || now.is(soul, OUT)) {
            return NONE;
        }
        feuds.paint(now.notOut());
        return feuds.walls[soul];
    }

    public int feud() {
        return feuds.largest(now.notOut(), true);
    }

    public int calm() {
        return feuds.largest(now.notOut(), false);
    }

    public int grudges(int soul) {
        return valley.hasSoul(soul) ? valley.foes[soul] : NONE;
    }

    public int load() {
        int together = 0;
        for (int soul = 0; soul < valley.souls; soul++) {
            if (now.is(soul, SET)) {
                together += valley.weights[soul];
            }
        }
        return together;
    }

    public int gaps() {
        int empty = valley.allPlaces() & ~taken(now.spots);
        int begins = empty & ~(empty << 1);
        return Integer.bitCount(begins);
    }

    public int widest() {
        int empty = valley.allPlaces() & ~taken(now.spots);
        int width = 0;
        int run = 0;
        for (int place = 0; place < valley.places; place++) {
            run = has(empty, place) ? run + 1 : 0;
            width = Math.max(width, run);
        }
        return width;
    }

    public int heavy() {
        int heaviest = NONE;
        for (int soul = 0; soul < valley.souls; soul++) {
            boolean heavier = heaviest == NONE || valley.weights[soul] > valley.weights[heaviest];
            if (heavier && now.is(soul, SET)) {
                heaviest = soul;
            }
        }
        return heaviest;
    }

    public int beside(int soul) {
        if (!now.is(soul, SET)) {
            return NONE;
        }
        int around = besideSpot(now.spots[soul]);
        int who = 0;
        for (int other = 0; other < valley.souls; other++) {
            if ((now.spots[other] & around) != 0) {
                who |= 1 << other;
            }
        }
        return who;
    }

    public int like() {
        int pairs = 0;
        for (int soul = 0; soul < valley.souls; soul++) {
            for (int other = 0; other < soul; other++) {
                if (valley.weights[soul] == valley.weights[other]) {
                    pairs++;
                }
            }
        }
        return pairs;
    }

    public int swaps() {
        int pairs = 0;
        trial.copyFrom(now);
        for (int soul = 0; soul < valley.souls; soul++) {
            for (int other = 0; other < soul; other++) {
                if (now.is(soul, SET) && now.is(other, SET) && canSwap(soul, other)) {
                    pairs++;
                }
            }
        }
        return pairs;
    }

    public boolean see(int place, int weight, boolean more) {
        if (!valley.hasPlace(place) || weight < 1 || weight > MOST_SEEN_WEIGHT) {
            return false;
        }
        return seen.add(place, weight, more);
    }

    public int fit() {
        return tallyFits();
    }

    public int look() {
        int least = tallyFits();
        int where = NONE;
        for (int place = 0; place < valley.places; place++) {
            int greatest = greatestTally(place);
            if (greatest < least) {
                least = greatest;
                where = place;
            }
        }
        return where;
    }

    public int chance(int soul, int weeks, int odds) {
        if (!now.is(soul, SET) || weeks < 1 || weeks > 6 || odds < 0 || odds > 10) {
            return NONE;
        }
        int millionths = 0;
        for (int frosts = 0; frosts < 1 << weeks; frosts++) {
            int share = shareOf(frosts, weeks, odds);
            if (share > 0 && outlasts(soul, frosts, weeks)) {
                millionths += share;
            }
        }
        return millionths;
    }

    public int rests(int lose, int throwing, int waiting, int what) throws NoSuchElementException {
        if (!isDigit(lose) || !isDigit(throwing) || !isDigit(waiting) || what < NONE) {
            throw new NoSuchElementException();
        }
        int found = 0;
        for (int choices = 0; choices < 4; choices++) {
            int one = choices / 2;
            int other = choices % 2;
            boolean oneStays = gain(one, other, lose, throwing, waiting) >= gain(1 - one, other, lose, throwing, waiting);
            boolean otherStays = gain(other, one, lose, throwing, waiting) >= gain(1 - other, one, lose, throwing, waiting);
            if (oneStays && otherStays) {
                if (found == what) {
                    return choices;
                }
                found++;
            }
        }
        if (what != NONE) {
            throw new NoSuchElementException();
        }
        return found;
    }

    public int centuries(int seed, int weeks, int what) {
        if (seed < 0 || seed > 9999 || weeks < 1 || weeks > 99 || what < 0 || what > 2) {
            return NONE;
        }
        trial.copyFrom(now);
        int fell = 0;
        long g = seed;
        for (int i = 0; i < weeks; i++) {
            if (valley.souls > 0 && valley.places > 0) {
                g = nextSeed(g);
                int soul = drawOf(g, valley.souls);
                g = nextSeed(g);
                int place = drawOf(g, valley.places);
                g = nextSeed(g);
                trial.attempt(deedOf(drawOf(g, 6)), soul, place);
            }
            fell += Integer.bitCount(trial.passWeek(valley.coldOf(trial.date)));
        }
        if (what == 0) {
            return fell;
        }
        return what == 1 ? Integer.bitCount(trial.who(SET)) : trial.who(OUT);
    }

    public boolean mark(int mark, boolean back) {
        if (mark < 0 || mark >= MARKS) {
            return false;
        }
        if (back) {
            return past.goBack(mark, now, seen);
        }
        past.layMark(mark, now, seen);
        return true;
    }

    public int count(int what) {
        switch (what) {
            case 0:
                return valley.places;
            case 1:
                return valley.souls;
            case 2:
                return valley.pairs;
            case 3:
                return now.date;
            case 4:
                return valley.coldOf(now.date);
            case 5:
            case 6:
            case 7:
            case 8:
            case 9:
                return now.who(what - 5);
            case 10:
                return year.lines;
            case 11:
                return seen.size;
            case 12:
                return past.held;
            case 13:
                return tape.length;
            default:
                return NONE;
        }
    }

    /** Does a deed by hand, if it can be: only then is there something to undo. */
    private boolean act(int deed, int soul, int place) {
        if (!now.allows(deed, soul, place)) {
            return false;
        }
        past.keep(now);
        now.perform(deed, soul, place);
        return true;
    }

    private void foresee() {
        future.prepare(now.date, HORIZON, now.who(SET));
        future.run(now.spots);
    }

    private void beginWays() {
        ways.begin(now.spots, now.loose(), now.who(SET));
    }

    /** Sets come in rising order, so the first one of a size is the least of it. */
    private int fullestSet() {
        int loose = now.loose();
        int standing = now.who(SET);
        int best = 0;
        for (int some = 1; some < SETS_OF_SOULS; some++) {
            boolean better = Integer.bitCount(some) > Integer.bitCount(best);
            if (better && isWithin(some, loose) && ways.isAny(now.spots, some, standing)) {
                best = some;
            }
        }
        return best;
    }

    /** Only these two change their PLACES, so no others can be newly beside one that they hurt. */
    private boolean canSwap(int soul, int other) {
        trial.spots[soul] = now.spots[other];
        trial.spots[other] = now.spots[soul];
        boolean can = (valley.nearFoes(soul, trial.spots) & trial.spots[soul]) == 0
            && (valley.nearFoes(other, trial.spots) & trial.spots[other]) == 0;
        trial.spots[soul] = now.spots[soul];
        trial.spots[other] = now.spots[other];
        return can;
    }

    /** How many WAYS fit what is SEEN; how many of them have which weight at which PLACE stays in the tallies. */
    private int tallyFits() {
        Arrays.fill(tallies, 0);
        int fits = 0;
        beginWays();
        for (int i = 0; i < MANY && ways.next(); i++) {
            ways.weigh();
            if (seen.agrees(ways.weightAt)) {
                fits++;
                for (int place = 0; place < valley.places; place++) {
                    tallies[place * WEIGHTS + ways.weightAt[place]]++;
                }
            }
        }
        return fits;
    }

    private int greatestTally(int place) {
        int greatest = 0;
        for (int weight = 0; weight < WEIGHTS; weight++) {
            greatest = Math.max(greatest, tallies[place * WEIGHTS + weight]);
        }
        return greatest;
    }

    /** How likely just these frosts are, in millionths: with 6 WEEKS at most this is never broken. */
    private static int shareOf(int frosts, int weeks, int odds) {
        int share = 1;
        for (int i = 0; i < 6; i++) {
            if (i >= weeks) {
                share *= 10;
            } else {
                share *= has(frosts, i) ? odds : 10 - odds;
            }
        }
        return share;
    }

    private boolean outlasts(int soul, int frosts, int weeks) {
        trial.copyFrom(now);
        for (int i = 0; i < weeks && trial.is(soul, SET); i++) {
            trial.passWeek(has(frosts, i) ? MOST_COLD : 0);
        }
        return trial.is(soul, SET);
    }

    /** What one gets by his own choice (1 throws) and the other one's. */
    private static int gain(int own, int other, int lose, int throwing, int waiting) {
        if (own == 1) {
            return other == 1 ? -lose : throwing;
        }
        return other == 1 ? waiting : 0;
    }

    private static boolean isDigit(int number) {
        return number >= 0 && number <= 9;
    }

    private static long nextSeed(long g) {
        return (g * 1103515245L + 12345L) % 2147483648L;
    }

    private static int drawOf(long g, int below) {
        return below > 0 ? (int) (g / 65536L % below) : 0;
    }

    private static int deedOf(int draw) {
        if (draw < 2) {
            return DEED_TELL;
        }
        return draw < 5 ? DEED_SET : DEED_TAKE;
    }

    private static boolean has(int bits, int number) {
        return (bits >> number & 1) != 0;
    }

    private static boolean isWithin(int some, int all) {
        return (some & ~all) == 0;
    }

    private static int placeOf(int spot) {
        return spot == 0 ? NONE : Integer.bitCount(spot - 1);
    }

    private static int besideSpot(int spot) {
        return spot << 1 | spot >> 1;
    }

    private static int taken(int[] spots) {
        int all = 0;
        for (int spot : spots) {
            all |= spot;
        }
        return all;
    }

    /** The signs that were fed, and the token of them that is looked at. */
    private static final class Tape {
        final char[] signs = new char[MOST_SIGNS];
        int length;
        int next;
        int token;
        int place;
        int number;
        long word;
        int fault;

        void addBytes(long bytes) {
            for (int shift = 56; shift >= 0; shift -= 8) {
                int sign = (int) (bytes >>> shift & 255);
                boolean known = sign == 10 || sign >= 32 && sign <= 126;
                if (known && length < MOST_SIGNS) {
                    signs[length] = (char) sign;
                    length++;
                }
            }
        }

        void empty() {
            length = 0;
        }

        void open() {
            next = 0;
            fault = 0;
            step();
        }

        /** Notes a fault of the token that is looked at; readers stop by it, so it is the first one. */
        boolean wrong(int kind) {
            fault = kind + 16 * place;
            return false;
        }

        boolean pass(int wanted) {
            if (token != wanted) {
                return wrong(NO_TOKEN);
            }
            step();
            return true;
        }

        /** A NUMBER within these bounds, passed; NONE: it is wrong. */
        int passNumber(int least, int most) {
            if (!isNumberWithin(least, most)) {
                return NONE;
            }
            int value = number;
            step();
            return value;
        }

        boolean isNumberWithin(int least, int most) {
            if (token != NUMBER) {
                return wrong(NO_TOKEN);
            }
            if (number < least || number > most) {
                return wrong(BAD_NUMBER);
            }
            return true;
        }

        /** Goes on to the next token. */
        void step() {
            while (next < length && isBlank(signs[next])) {
                next++;
            }
            place = next;
            if (next >= length) {
                token = END;
            } else if (isLetter(signs[next])) {
                stepWord();
            } else if (isNumeral(signs[next])) {
                stepNumber();
            } else {
                token = isSign(signs[next]) ? signs[next] : NOTHING;
                next++;
            }
        }

        private void stepWord() {
            word = 0;
            while (next < length && isLetter(signs[next])) {
                word = word << 8 | signs[next];
                next++;
            }
            token = next - place > MOST_LETTERS ? NOTHING : wordToken();
        }

        private int wordToken() {
            for (int row = 0; row < LANGUAGE.length; row++) {
                if (LANGUAGE[row] == word) {
                    return FIRST_WORD + row;
                }
            }
            return NAME;
        }

        private void stepNumber() {
            number = 0;
            while (next < length && isNumeral(signs[next])) {
                number = number * 10 + (signs[next] - '0');
                next++;
            }
            token = next - place > MOST_DIGITS ? NOTHING : NUMBER;
        }

        private static boolean isBlank(char sign) {
            return sign == 10 || sign == 32;
        }

        private static boolean isLetter(char sign) {
            return sign >= 'a' && sign <= 'z';
        }

        private static boolean isNumeral(char sign) {
            return sign >= '0' && sign <= '9';
        }

        private static boolean isSign(char sign) {
            switch (sign) {
                case '(':
                case ')':
                case '<':
                case '=':
                case '+':
                case '-':
                case '*':
                case ';':
                    return true;
                default:
                    return false;
            }
        }
    }

    /** The E of falls, kept so that each step comes behind what it works on: a NUMBER by itself, all else below 0. */
    private static final class Law {
        private static final int WEIGHT = -1;
        private static final int COLD = -2;
        private static final int NEIGHBOURS = -3;
        private static final int DATE = -4;
        private static final int NOT = -5;
        private static final int AND = -6;
        private static final int OR = -7;
        private static final int LESS = -8;
        private static final int SAME = -9;
        private static final int PLUS = -10;
        private static final int MINUS = -11;
        private static final int TIMES = -12;
        private static final int NOT_A_LEAF = -99;
        private static final int LEVEL_TEST = 1;
        private static final int LAST_LEVEL = 3;
        /** Each of 5 depths leaves 4 values waiting at most (of E, TEST, SUM, PRODUCT). */
        private static final int MOST_WAITING = 32;

        final int[] steps = new int[MOST_SIGNS];
        final int[] values = new int[MOST_WAITING];
        int length;

        void copyFrom(Law other) {
            length = other.length;
            System.arraycopy(other.steps, 0, steps, 0, length);
        }

        void beNothing() {
            length = 0;
        }

        void beUsual() {
            beNothing();
            put(WEIGHT);
            put(COLD);
            put(LESS);
        }

        /** An E, which is level 0; below it each level joins what the next one reads, and the last one joins PARTS. */
        boolean readLevel(Tape tape, int level, int depth) {
            if (level > LAST_LEVEL) {
                return readPart(tape, depth);
            }
            boolean right = readLevel(tape, level + 1, depth);
            int most = level == LEVEL_TEST ? 1 : MOST_SIGNS;
            for (int i = 0; i < most && right && levelOf(tape.token) == level; i++) {
                int joint = jointOf(tape.token);
                tape.step();
                right = readLevel(tape, level + 1, depth);
                put(joint);
            }
            return right;
        }

        private static int levelOf(int token) {
            switch (token) {
                case WORD_AND:
                case WORD_OR:
                    return 0;
                case '<':
                case '=':
                    return LEVEL_TEST;
                case '+':
                case '-':
                    return 2;
                case '*':
                    return LAST_LEVEL;
                default:
                    return NONE;
            }
        }

        private static int jointOf(int token) {
            switch (token) {
                case WORD_AND:
                    return AND;
                case WORD_OR:
                    return OR;
                case '<':
                    return LESS;
                case '=':
                    return SAME;
                case '+':
                    return PLUS;
                case '-':
                    return MINUS;
                default:
                    return TIMES;
            }
        }

        /** Looks at ) itself: one call more, and the calls that are no recursion would go too deep. */
        private boolean readPart(Tape tape, int depth) {
            int leaf = leafOf(tape);
            boolean opens = tape.token == '(';
            if (leaf == NOT_A_LEAF && !opens && tape.token != WORD_NOT) {
                return tape.wrong(NO_TOKEN);
            }
            if (depth >= MOST_DEPTH) {
                return tape.wrong(TOO_MANY);
            }
            tape.step();
            if (leaf != NOT_A_LEAF) {
                put(leaf);
                return true;
            }
            if (!opens) {
                boolean right = readPart(tape, depth + 1);
                put(NOT);
                return right;
            }
            if (!readLevel(tape, 0, depth + 1)) {
                return false;
            }
            if (tape.token != ')') {
                return tape.wrong(NO_TOKEN);
            }
            tape.step();
            return true;
        }

        private static int leafOf(Tape tape) {
            if (tape.token == NUMBER) {
                return tape.number;
            }
            if (tape.token != NAME) {
                return NOT_A_LEAF;
            }
            if (tape.word == FACT_WEIGHT) {
                return WEIGHT;
            }
            if (tape.word == FACT_COLD) {
                return COLD;
            }
            if (tape.word == FACT_BESIDE) {
                return NEIGHBOURS;
            }
            return tape.word == FACT_DATE ? DATE : NOT_A_LEAF;
        }

        private void put(int step) {
            if (length < steps.length) {
                steps[length] = step;
                length++;
            }
        }

        boolean holds(int weight, int cold, int neighbours, int date) {
            int top = 0;
            for (int i = 0; i < length; i++) {
                int step = steps[i];
                if (step >= DATE) {
                    if (top >= MOST_WAITING) {
                        return false;
                    }
                    values[top] = step >= 0 ? step : factOf(step, weight, cold, neighbours, date);
                    top++;
                } else if (step == NOT) {
                    if (top < 1) {
                        return false;
                    }
                    values[top - 1] = values[top - 1] == 0 ? 1 : 0;
                } else {
                    if (top < 2) {
                        return false;
                    }
                    top--;
                    values[top - 1] = join(step, values[top - 1], values[top]);
                }
            }
            return top > 0 && values[0] != 0;
        }

        private static int factOf(int step, int weight, int cold, int neighbours, int date) {
            switch (step) {
                case WEIGHT:
                    return weight;
                case COLD:
                    return cold;
                case NEIGHBOURS:
                    return neighbours;
                default:
                    return date;
            }
        }

        private static int join(int step, int a, int b) {
            switch (step) {
                case AND:
                    return a != 0 && b != 0 ? 1 : 0;
                case OR:
                    return a != 0 || b != 0 ? 1 : 0;
                case LESS:
                    return a < b ? 1 : 0;
                case SAME:
                    return a == b ? 1 : 0;
                case PLUS:
                    return a + b;
                case MINUS:
                    return a - b;
                default:
                    return a * b;
            }
        }
    }

    /** What a VALLEY's text tells. */
    private static final class Valley {
        final long[] names = new long[MOST_SOULS];
        final int[] kinds = new int[MOST_SOULS];
        final int[] secrets = new int[MOST_SOULS];
        final int[] dues = new int[MOST_SOULS];
        final int[] weights = new int[MOST_SOULS];
        final int[] foes = new int[MOST_SOULS];
        final int[] frost = new int[MOST_FROSTS];
        final Law law = new Law();
        int places;
        int souls;
        int pairs;
        int frosts;
        boolean lawTold;

        void copyFrom(Valley other) {
            System.arraycopy(other.names, 0, names, 0, MOST_SOULS);
            System.arraycopy(other.kinds, 0, kinds, 0, MOST_SOULS);
            System.arraycopy(other.secrets, 0, secrets, 0, MOST_SOULS);
            System.arraycopy(other.dues, 0, dues, 0, MOST_SOULS);
            System.arraycopy(other.weights, 0, weights, 0, MOST_SOULS);
            System.arraycopy(other.foes, 0, foes, 0, MOST_SOULS);
            System.arraycopy(other.frost, 0, frost, 0, MOST_FROSTS);
            law.copyFrom(other.law);
            places = other.places;
            souls = other.souls;
            pairs = other.pairs;
            frosts = other.frosts;
            lawTold = other.lawTold;
        }

        boolean read(Tape tape) {
            beginReading();
            boolean right = true;
            for (int i = 0; i < MOST_SIGNS && right && tape.token != END; i++) {
                right = readLine(tape) && tape.pass(';');
            }
            addLordsGrudges();
            return right;
        }

        private void beginReading() {
            Arrays.fill(foes, 0);
            law.beUsual();
            places = 0;
            souls = 0;
            pairs = 0;
            frosts = 0;
            lawTold = false;
        }

        private boolean readLine(Tape tape) {
            switch (tape.token) {
                case WORD_WALL:
                    return readWall(tape);
                case WORD_SOUL:
                    return readSoul(tape);
                case WORD_HURTS:
                    return readHurts(tape);
                case WORD_FROST:
                    return readFrost(tape);
                case WORD_FALLS:
                    return beginLaw(tape) && law.readLevel(tape, 0, 0);
                default:
                    return tape.wrong(NO_TOKEN);
            }
        }

        private boolean readWall(Tape tape) {
            if (places > 0) {
                return tape.wrong(TOLD_TWICE);
            }
            tape.step();
            places = tape.passNumber(1, MOST_PLACES);
            return places != NONE;
        }

        private boolean readSoul(Tape tape) {
            if (souls >= MOST_SOULS) {
                return tape.wrong(TOO_MANY);
            }
            int soul = souls;
            tape.step();
            if (!readNewName(tape, soul) || !readKind(tape, soul) || !tape.pass(WORD_SECRET)) {
                return false;
            }
            secrets[soul] = tape.passNumber(0, MOST_SECRET);
            if (secrets[soul] == NONE || !tape.pass(WORD_DUE)) {
                return false;
            }
            dues[soul] = tape.passNumber(0, MOST_DUE);
            weights[soul] = weightOf(kinds[soul], secrets[soul]);
            souls++;
            return dues[soul] != NONE;
        }

        private boolean readNewName(Tape tape, int soul) {
            if (tape.token != NAME) {
                return tape.wrong(NO_TOKEN);
            }
            if (soulNamed(tape.word) != NONE) {
                return tape.wrong(TOLD_TWICE);
            }
            names[soul] = tape.word;
            tape.step();
            return true;
        }

        private boolean readKind(Tape tape, int soul) {
            if (tape.token < WORD_PLAIN || tape.token > WORD_LORD) {
                return tape.wrong(NO_TOKEN);
            }
            kinds[soul] = tape.token - WORD_PLAIN;
            tape.step();
            return true;
        }

        private static int weightOf(int kind, int secret) {
            switch (kind) {
                case BOY:
                    return 9;
                case PRIEST:
                    return 2 * secret + 1;
                case LORD:
                    return secret + 4;
                default:
                    return secret + 1;
            }
        }

        private boolean readHurts(Tape tape) {
            tape.step();
            int one = passSoul(tape);
            if (one == NONE) {
                return false;
            }
            int other = soulAt(tape);
            if (other == NONE) {
                return false;
            }
            if (other == one || has(foes[one], other)) {
                return tape.wrong(TOLD_TWICE);
            }
            foes[one] |= 1 << other;
            foes[other] |= 1 << one;
            pairs++;
            tape.step();
            return true;
        }

        private boolean readFrost(Tape tape) {
            if (frosts > 0) {
                return tape.wrong(TOLD_TWICE);
            }
            tape.step();
            boolean right = readCold(tape);
            for (int i = 0; i < MOST_SIGNS && right && tape.token == NUMBER; i++) {
                right = readCold(tape);
            }
            return right;
        }

        private boolean readCold(Tape tape) {
            if (!tape.isNumberWithin(0, MOST_COLD)) {
                return false;
            }
            if (frosts >= MOST_FROSTS) {
                return tape.wrong(TOO_MANY);
            }
            frost[frosts] = tape.number;
            frosts++;
            tape.step();
            return true;
        }

        private boolean beginLaw(Tape tape) {
            if (lawTold) {
                return tape.wrong(TOLD_TWICE);
            }
            lawTold = true;
            law.beNothing();
            tape.step();
            return true;
        }

        /** Only when all is read: until then a lord's grudge is not one that hurts has told. */
        private void addLordsGrudges() {
            int lords = 0;
            for (int soul = 0; soul < souls; soul++) {
                if (kinds[soul] == LORD) {
                    lords |= 1 << soul;
                }
            }
            for (int soul = 0; soul < souls; soul++) {
                if (kinds[soul] == LORD) {
                    foes[soul] |= lords & ~(1 << soul);
                }
            }
        }

        /** The SOUL that the token names; NONE: it is wrong. */
        int soulAt(Tape tape) {
            int soul = NONE;
            if (tape.token != NAME) {
                tape.wrong(NO_TOKEN);
            } else {
                soul = soulNamed(tape.word);
                if (soul == NONE) {
                    tape.wrong(NOT_TOLD);
                }
            }
            return soul;
        }

        int passSoul(Tape tape) {
            int soul = soulAt(tape);
            if (soul != NONE) {
                tape.step();
            }
            return soul;
        }

        private int soulNamed(long name) {
            for (int soul = 0; soul < souls; soul++) {
                if (names[soul] == name) {
                    return soul;
                }
            }
            return NONE;
        }

        boolean hasSoul(int soul) {
            return soul >= 0 && soul < souls;
        }

        boolean hasPlace(int place) {
            return place >= 0 && place < places;
        }

        int allPlaces() {
            return (1 << places) - 1;
        }

        int coldOf(int date) {
            return frosts > 0 && date >= 0 ? frost[date % frosts] : 0;
        }

        boolean canLeak(int soul) {
            return kinds[soul] == PLAIN || kinds[soul] == LORD;
        }

        boolean drops(int soul, int cold, int neighbours, int date) {
            return law.holds(weights[soul], cold, neighbours, date);
        }

        /** The PLACES right beside those that this SOUL hurts. */
        int nearFoes(int soul, int[] spots) {
            int near = 0;
            for (int other = 0; other < souls; other++) {
                if (has(foes[soul], other)) {
                    near |= besideSpot(spots[other]);
                }
            }
            return near;
        }

        int openTo(int soul, int[] spots) {
            return allPlaces() & ~taken(spots) & ~nearFoes(soul, spots);
        }

        int leanOf(int[] spots) {
            int sum = 0;
            for (int soul = 0; soul < souls; soul++) {
                if (spots[soul] != 0) {
                    sum += weights[soul] * (2 * placeOf(spots[soul]) + 1 - places);
                }
            }
            return Math.abs(sum);
        }
    }

    /** What a YEAR's text tells. */
    private static final class Year {
        final int[] deeds = new int[MOST_LINES];
        final int[] souls = new int[MOST_LINES];
        final int[] places = new int[MOST_LINES];
        int lines;

        void copyFrom(Year other) {
            System.arraycopy(other.deeds, 0, deeds, 0, MOST_LINES);
            System.arraycopy(other.souls, 0, souls, 0, MOST_LINES);
            System.arraycopy(other.places, 0, places, 0, MOST_LINES);
            lines = other.lines;
        }

        boolean read(Tape tape, Valley valley) {
            lines = 0;
            boolean right = true;
            for (int i = 0; i < MOST_SIGNS && right && tape.token != END; i++) {
                right = readLine(tape, valley) && tape.pass(';');
            }
            return right;
        }

        private boolean readLine(Tape tape, Valley valley) {
            int deed = deedAt(tape.token);
            if (deed == NONE) {
                return tape.wrong(NO_TOKEN);
            }
            if (lines >= MOST_LINES) {
                return tape.wrong(TOO_MANY);
            }
            int line = lines;
            lines++;
            deeds[line] = deed;
            souls[line] = NONE;
            places[line] = NONE;
            tape.step();
            if (deed == DEED_WEEK) {
                return true;
            }
            souls[line] = valley.passSoul(tape);
            if (souls[line] == NONE || deed != DEED_SET) {
                return souls[line] != NONE;
            }
            places[line] = tape.passNumber(0, valley.places - 1);
            return places[line] != NONE;
        }

        private static int deedAt(int token) {
            switch (token) {
                case WORD_WEEK:
                    return DEED_WEEK;
                case WORD_TELL:
                    return DEED_TELL;
                case WORD_SET:
                    return DEED_SET;
                case WORD_TAKE:
                    return DEED_TAKE;
                default:
                    return NONE;
            }
        }
    }

    /** How all secrets are in a week. A SOUL has a spot just while it is SET. */
    private static final class Wall {
        final Valley valley;
        final int[] states = new int[MOST_SOULS];
        final int[] spots = new int[MOST_SOULS];
        int date;

        Wall(Valley valley) {
            this.valley = valley;
        }

        void begin() {
            date = 0;
            Arrays.fill(states, KEPT);
            Arrays.fill(spots, 0);
        }

        void copyFrom(Wall other) {
            date = other.date;
            System.arraycopy(other.states, 0, states, 0, MOST_SOULS);
            System.arraycopy(other.spots, 0, spots, 0, MOST_SOULS);
        }

        boolean is(int soul, int state) {
            return valley.hasSoul(soul) && states[soul] == state;
        }

        boolean isLoose(int soul) {
            return is(soul, CARRIED) || is(soul, FALLEN);
        }

        boolean isStone(int soul) {
            return isLoose(soul) || is(soul, SET);
        }

        int who(int state) {
            int bits = 0;
            for (int soul = 0; soul < valley.souls; soul++) {
                if (states[soul] == state) {
                    bits |= 1 << soul;
                }
            }
            return bits;
        }

        int loose() {
            return who(CARRIED) | who(FALLEN);
        }

        int notOut() {
            return (1 << valley.souls) - 1 & ~who(OUT);
        }

        int standing(int spot) {
            for (int soul = 0; soul < valley.souls; soul++) {
                if (spots[soul] == spot) {
                    return soul;
                }
            }
            return NONE;
        }

        boolean allows(int deed, int soul, int place) {
            switch (deed) {
                case DEED_TELL:
                    return is(soul, KEPT);
                case DEED_SET:
                    return isLoose(soul) && valley.hasPlace(place) && has(valley.openTo(soul, spots), place);
                case DEED_TAKE:
                    return is(soul, SET);
                default:
                    return true;
            }
        }

        /** Only what is allowed. */
        void perform(int deed, int soul, int place) {
            if (deed == DEED_WEEK) {
                passWeek(valley.coldOf(date));
            } else if (deed == DEED_SET) {
                states[soul] = SET;
                spots[soul] = 1 << place;
            } else {
                states[soul] = CARRIED;
                spots[soul] = 0;
            }
        }

        boolean attempt(int deed, int soul, int place) {
            boolean can = allows(deed, soul, place);
            if (can) {
                perform(deed, soul, place);
            }
            return can;
        }

        /** Who falls, all by the wall as it was ahead. */
        int passWeek(int cold) {
            int falling = fallingBy(cold);
            for (int soul = 0; soul < valley.souls; soul++) {
                if (has(falling, soul)) {
                    states[soul] = FALLEN;
                    spots[soul] = 0;
                } else if (states[soul] == KEPT && valley.canLeak(soul) && valley.dues[soul] <= date) {
                    states[soul] = OUT;
                }
            }
            date++;
            return falling;
        }

        private int fallingBy(int cold) {
            int all = taken(spots);
            int falling = 0;
            for (int soul = 0; soul < valley.souls; soul++) {
                int neighbours = Integer.bitCount(besideSpot(spots[soul]) & all);
                if (spots[soul] != 0 && valley.drops(soul, cold, neighbours, date)) {
                    falling |= 1 << soul;
                }
            }
            return falling;
        }
    }

    /** The walls that can be brought back: the last ones, in a ring, and those that are marked. */
    private static final class Past {
        final Wall[] ring = new Wall[MOST_UNDONE];
        final Wall[] marked = new Wall[MARKS];
        final Seen[] markedSeen = new Seen[MARKS];
        int laid;
        int next;
        int held;

        Past(Valley valley) {
            for (int i = 0; i < MOST_UNDONE; i++) {
                ring[i] = new Wall(valley);
            }
            for (int i = 0; i < MARKS; i++) {
                marked[i] = new Wall(valley);
                markedSeen[i] = new Seen();
            }
        }

        void forgetAll() {
            held = 0;
            laid = 0;
        }

        void keep(Wall wall) {
            ring[next].copyFrom(wall);
            next = (next + 1) % MOST_UNDONE;
            held = Math.min(held + 1, MOST_UNDONE);
        }

        boolean bringBack(Wall wall) {
            if (held == 0) {
                return false;
            }
            next = (next + MOST_UNDONE - 1) % MOST_UNDONE;
            held--;
            wall.copyFrom(ring[next]);
            return true;
        }

        void layMark(int mark, Wall wall, Seen seen) {
            marked[mark].copyFrom(wall);
            markedSeen[mark].copyFrom(seen);
            laid |= 1 << mark;
        }

        boolean goBack(int mark, Wall wall, Seen seen) {
            if (!has(laid, mark)) {
                return false;
            }
            wall.copyFrom(marked[mark]);
            seen.copyFrom(markedSeen[mark]);
            held = 0;
            return true;
        }
    }

    /** What was weighed: at a PLACE so much or more, or less. */
    private static final class Seen {
        final int[] places = new int[MOST_SEEN];
        final int[] weights = new int[MOST_SEEN];
        int ups;
        int size;

        boolean add(int place, int weight, boolean more) {
            if (size >= MOST_SEEN) {
                return false;
            }
            places[size] = place;
            weights[size] = weight;
            ups = ups & ~(1 << size) | (more ? 1 << size : 0);
            size++;
            return true;
        }

        void copyFrom(Seen other) {
            System.arraycopy(other.places, 0, places, 0, MOST_SEEN);
            System.arraycopy(other.weights, 0, weights, 0, MOST_SEEN);
            ups = other.ups;
            size = other.size;
        }

        boolean agrees(int[] weightAt) {
            for (int i = 0; i < size; i++) {
                boolean up = weightAt[places[i]] >= weights[i];
                if (up != has(ups, i)) {
                    return false;
                }
            }
            return true;
        }
    }

    /** All WAYS to set some stones beside those that stay, one behind another by the PLACES of the SOULS. */
    private static final class Ways {
        final Valley valley;
        final int[] movers = new int[MOST_SOULS];
        final int[] untried = new int[MOST_SOULS];
        final int[] spots = new int[MOST_SOULS];
        final int[] weightAt = new int[MOST_PLACES];
        int moving;
        boolean begun;

        Ways(Valley valley) {
            this.valley = valley;
        }

        void begin(int[] from, int loose, int staying) {
            moving = 0;
            begun = false;
            for (int soul = 0; soul < MOST_SOULS; soul++) {
                spots[soul] = has(staying, soul) ? from[soul] : 0;
                if (has(loose, soul)) {
                    movers[moving] = soul;
                    moving++;
                }
            }
        }

        boolean isAny(int[] from, int loose, int staying) {
            begin(from, loose, staying);
            return next();
        }

        /** Lays out the next WAY in the spots; false: there is none more. */
        boolean next() {
            int depth = begun ? moving - 1 : 0;
            if (!begun) {
                begun = true;
                enter(depth);
            }
            for (int i = 0; i < MANY && depth >= 0 && depth < moving; i++) {
                int soul = movers[depth];
                int spot = untried[depth] & -untried[depth];
                untried[depth] ^= spot;
                spots[soul] = spot;
                if (spot == 0) {
                    depth--;
                } else {
                    depth++;
                    enter(depth);
                }
            }
            return depth == moving;
        }

        private void enter(int depth) {
            if (depth < moving) {
                untried[depth] = valley.openTo(movers[depth], spots);
            }
        }

        void weigh() {
            Arrays.fill(weightAt, 0);
            for (int soul = 0; soul < valley.souls; soul++) {
                if (spots[soul] != 0) {
                    weightAt[placeOf(spots[soul])] = valley.weights[soul];
                }
            }
        }
    }

    /**
     * What WEEKS going by do to a wall.
     * A stone's lot hangs on the week and on how many stand beside it, so a table of the next week in which it falls,
     * made once, tells the lot of each of thousands of WAYS by leaps from one fall to the next.
     */
    private static final class Future {
        private static final int COUNTS = 3;
        private static final int ROW = MOST_SOULS * COUNTS;
        private static final int NEVER = HORIZON + 1;

        final Valley valley;
        final int[] soonest = new int[(HORIZON + 1) * ROW];
        final int[] turns = new int[MOST_SOULS];
        final int[] spots = new int[MOST_SOULS];
        /** Behind how many WEEKS a SOUL has fallen; 0: it hasn't. */
        final int[] fallen = new int[MOST_SOULS];
        int span;

        Future(Valley valley) {
            this.valley = valley;
        }

        void prepare(int date, int weeks, int who) {
            span = Math.max(0, Math.min(weeks, HORIZON));
            for (int cell = 0; cell < ROW; cell++) {
                soonest[span * ROW + cell] = NEVER;
            }
            for (int ahead = span - 1; ahead >= 0; ahead--) {
                int cold = valley.coldOf(date + ahead);
                for (int soul = 0; soul < valley.souls; soul++) {
                    for (int neighbours = 0; neighbours < COUNTS && has(who, soul); neighbours++) {
                        int cell = cellOf(ahead, soul, neighbours);
                        boolean drops = valley.drops(soul, cold, neighbours, date + ahead);
                        soonest[cell] = drops ? ahead : soonest[cell + ROW];
                    }
                }
            }
        }

        private static int cellOf(int ahead, int soul, int neighbours) {
            return ahead * ROW + soul * COUNTS + neighbours;
        }

        void run(int[] from) {
            System.arraycopy(from, 0, spots, 0, MOST_SOULS);
            Arrays.fill(fallen, 0);
            int ahead = 0;
            for (int leap = 0; leap < MOST_SOULS && ahead <= span; leap++) {
                int turn = nextTurn(ahead);
                if (turn < NEVER) {
                    dropAt(turn);
                }
                ahead = turn + 1;
            }
        }

        private int nextTurn(int ahead) {
            int all = taken(spots);
            int next = NEVER;
            for (int soul = 0; soul < valley.souls; soul++) {
                if (spots[soul] != 0) {
                    int neighbours = Integer.bitCount(besideSpot(spots[soul]) & all);
                    turns[soul] = soonest[cellOf(ahead, soul, neighbours)];
                    next = Math.min(next, turns[soul]);
                }
            }
            return next;
        }

        private void dropAt(int turn) {
            for (int soul = 0; soul < valley.souls; soul++) {
                if (spots[soul] != 0 && turns[soul] == turn) {
                    spots[soul] = 0;
                    fallen[soul] = turn + 1;
                }
            }
        }

        /** Who of the wall that was run stands behind so many WEEKS. */
        int standingBehind(int weeks) {
            int who = 0;
            for (int soul = 0; soul < valley.souls; soul++) {
                if (spots[soul] != 0 || fallen[soul] > weeks) {
                    who |= 1 << soul;
                }
            }
            return who;
        }
    }

    /** Who would hurt whom, by sets of SOULS. */
    private static final class Feuds {
        final Valley valley;
        final int[] walls = new int[MOST_SOULS];

        Feuds(Valley valley) {
            this.valley = valley;
        }

        /** The fewest walls that part all of these that hurt; the first such row stays. */
        int paint(int who) {
            int limit = 0;
            while (limit <= MOST_SOULS && !paintFrom(0, who, limit)) {
                limit++;
            }
            return limit;
        }

        private boolean paintFrom(int soul, int who, int limit) {
            if (soul >= valley.souls) {
                return true;
            }
            if (!has(who, soul)) {
                walls[soul] = NONE;
                return paintFrom(soul + 1, who, limit);
            }
            for (int wall = 0; wall < limit; wall++) {
                walls[soul] = wall;
                if (isAtPeace(soul) && paintFrom(soul + 1, who, limit)) {
                    return true;
                }
            }
            return false;
        }

        private boolean isAtPeace(int soul) {
            for (int other = 0; other < soul; other++) {
                if (walls[other] == walls[soul] && has(valley.foes[soul], other)) {
                    return false;
                }
            }
            return true;
        }

        /** The largest set of which each hurts each (or none another one); sets rise, so it is the least of its size. */
        int largest(int who, boolean hurting) {
            int best = 0;
            for (int some = 1; some < SETS_OF_SOULS; some++) {
                boolean better = Integer.bitCount(some) > Integer.bitCount(best);
                if (better && isWithin(some, who) && isAlike(some, hurting)) {
                    best = some;
                }
            }
            return best;
        }

        private boolean isAlike(int some, boolean hurting) {
            for (int soul = 0; soul < valley.souls; soul++) {
                int others = some & ~(1 << soul);
                int wanted = hurting ? others : 0;
                if (has(some, soul) && (valley.foes[soul] & others) != wanted) {
                    return false;
                }
            }
            return true;
        }
    }
}
