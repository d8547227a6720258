/**
 * Counts the turns of something that comes round in a period within a box, from arrivals that were
 * each heard a little early or late. The document of the project says what each call answers.
 */
public final class PulseTurns {
    public static final int BAD = -1, STATE = -2, FULL = -3, NONE = -9;
    public static final int NO = -1000000;

    private static final int MOST_ARRIVALS = 7;
    private static final int LAST_TIME = 2999;
    private static final int LEAST_PERIOD = 10, MOST_PERIOD = 999;
    private static final int MOST_SLACK = 99;
    private static final int FIRST_LOW = 100, FIRST_HIGH = 200, FIRST_SLACK = 2;
    private static final int MOST_LETTERS = 100;
    private static final int MOST_UNDONE = 10;
    private static final int IMAGES = 2;
    private static final int LISTENED = 100;
    private static final int OF_ODDS = 10;
    // Far above what any run can need: no arrival has more than some 320 numbers that fit.
    private static final int MOST_STEPS = 1000000;

    private final Hearing now = new Hearing();
    // What is asked of other arrivals than those heard is tried out here, so that nothing changes.
    private final Hearing trial = new Hearing();
    private final Past past = new Past();
    private final Hearing[] images = new Hearing[IMAGES];
    private final boolean[] kept = new boolean[IMAGES];
    private final Reader text = new Reader();
    private final Numberings numberings = new Numberings();
    private final Periods cutting = new Periods();
    private final int[] firstNumbers = new int[MOST_ARRIVALS];
    private final int[] leftBy = new int[LISTENED];

    public PulseTurns() {
        for (int i = 0; i < images.length; i++) {
            images[i] = new Hearing();
        }
    }

    // ---- what is heard

    public int type(int letter) {
        if (letter < 0 || letter > 255) {
            return BAD;
        }
        return text.put(letter);
    }

    public int clear() {
        return text.wipe();
    }

    public int heard() {
        int items = text.read(trial);
        if (items < 0) {
            return items;
        }
        now.take(trial);
        past.forget();
        for (int i = 0; i < kept.length; i++) {
            kept[i] = false;
        }
        text.wipe();
        return items;
    }

    public int time(int k) {
        return now.hasArrival(k) ? now.times[k] : BAD;
    }

    public int adds(int time) {
        int refused = refusesNew(time);
        if (refused != 0) {
            return refused;
        }
        past.push(now);
        return now.place(time);
    }

    public int strikes(int k) {
        if (!now.hasArrival(k)) {
            return BAD;
        }
        past.push(now);
        return now.drop(k);
    }

    public int boxes(int low, int high, int slack) {
        if (!isLow(low) || !isHigh(low, high) || !isSlack(low, slack)) {
            return BAD;
        }
        past.push(now);
        now.low = low;
        now.high = high;
        now.slack = slack;
        return standing(now);
    }

    public int undo() {
        if (!past.pull(now)) {
            return STATE;
        }
        return past.size;
    }

    // ---- counts, boxes

    public int counts(int i, int j, int way, int what) {
        if (!now.hasArrival(i) || !now.hasArrival(j) || i >= j) {
            return BAD;
        }
        if (way < 0 || way > 1 || what < 0 || what > 2) {
            return BAD;
        }
        if (way == 0) {
            cutting.spread(now.low, now.high);
        } else if (!cutting.narrow(now)) {
            return STATE;
        }
        int least = cutting.leastCount(now, i, j);
        int greatest = cutting.greatestCount(now, i, j);
        return ofRange(Math.max(0, greatest - least + 1), least, greatest, what);
    }

    public int narrowed(int what) {
        if (what < 0 || what > 3) {
            return BAD;
        }
        return cutting.narrow(now) ? cutting.part(what) : NONE;
    }

    // ---- numberings

    public int number(int k, int arrival) {
        if (k < 0 || !now.hasArrival(arrival)) {
            return BAD;
        }
        return goesTo(k) ? numberings.numbers[arrival] : NONE;
    }

    public int box(int k, int what) {
        if (k < 0 || what < 0 || what > 3) {
            return BAD;
        }
        return goesTo(k) ? numberings.boxPart(what) : NONE;
    }

    public int held(int gap, int what) {
        if (gap < 0 || gap >= now.size - 1 || gap >= MOST_ARRIVALS - 1 || what < 0 || what > 2) {
            return BAD;
        }
        int many = 0;
        int least = 0;
        int greatest = 0;
        numberings.begin(now);
        for (int k = 0; k < MOST_STEPS && numberings.next(); k++) {
            int turns = numberings.numbers[gap + 1] - numberings.numbers[gap];
            // Numberings come by falling periods, so no gap's count ever falls behind a greater one.
            if (turns > greatest) {
                many++;
                least = many == 1 ? turns : least;
                greatest = turns;
            }
        }
        return ofRange(many, least, greatest, what);
    }

    public int bend(int i, int j, int k, int what) {
        if (!now.hasArrival(i) || !now.hasArrival(j) || !now.hasArrival(k) || i >= j || j >= k) {
            return NO;
        }
        if (what < 0 || what > 1 || !goesTo(0)) {
            return NO;
        }
        int firstApart = now.times[j] - now.times[i];
        int firstTurns = numberings.numbers[j] - numberings.numbers[i];
        int secondApart = now.times[k] - now.times[j];
        int secondTurns = numberings.numbers[k] - numberings.numbers[j];
        int upper = secondApart * firstTurns - firstApart * secondTurns;
        return Fraction.part(upper, firstTurns * secondTurns, what);
    }

    public int left(int time) {
        int refused = refusesNew(time);
        if (refused != 0) {
            return refused;
        }
        trial.take(now);
        trial.place(time);
        return standing(trial);
    }

    public int listen() {
        if (now.size >= MOST_ARRIVALS) {
            return FULL;
        }
        if (now.size <= 0) {
            return NONE;
        }
        int first = now.times[now.size - 1] + 1;
        int many = Math.min(LISTENED, LAST_TIME - first + 1);
        tellLeftBy(first, many);
        int best = NONE;
        int fewest = 0;
        for (int t = 0; t < many; t++) {
            if (leftBy[t] > 0 && (best == NONE || leftBy[t] < fewest)) {
                best = first + t;
                fewest = leftBy[t];
            }
        }
        return best;
    }

    public int odds(int x, int what) {
        if (x < 0 || x > OF_ODDS || what < 0 || what > 1) {
            return BAD;
        }
        int upper = 0;
        for (int staying = 0; staying < 1 << now.size; staying++) {
            int stay = Integer.bitCount(staying);
            int weight = power(OF_ODDS - x, stay) * power(x, now.size - stay);
            if (weight > 0 && leavesOne(staying)) {
                upper += weight;
            }
        }
        return Fraction.part(upper, power(OF_ODDS, now.size), what);
    }

    // ---- images

    public int keep(int image) {
        if (!isImage(image)) {
            return BAD;
        }
        images[image].take(now);
        kept[image] = true;
        return now.size;
    }

    public int back(int image) {
        if (!isImage(image)) {
            return BAD;
        }
        if (!kept[image]) {
            return STATE;
        }
        now.take(images[image]);
        past.forget();
        return now.size;
    }

    public int count(int what) {
        switch (what) {
            case 0:
                return now.size;
            case 1:
                return now.low;
            case 2:
                return now.high;
            case 3:
                return now.slack;
            case 4:
                return standing(now);
            case 5:
                return certain();
            case 6:
                return text.length;
            case 7:
                return past.size;
            default:
                return BAD;
        }
    }

    // ---- what the calls share

    private static boolean isImage(int image) {
        return image >= 0 && image < IMAGES;
    }

    private static boolean isTime(int time) {
        return time >= 0 && time <= LAST_TIME;
    }

    private static boolean isLow(int low) {
        return low >= LEAST_PERIOD && low <= MOST_PERIOD;
    }

    private static boolean isHigh(int low, int high) {
        return high >= low && high <= MOST_PERIOD;
    }

    private static boolean isSlack(int low, int slack) {
        return slack >= 0 && slack <= MOST_SLACK && 4 * slack < low;
    }

    /** Why no arrival can be added at a time, or 0. */
    private int refusesNew(int time) {
        if (!isTime(time)) {
            return BAD;
        }
        if (now.hears(time)) {
            return STATE;
        }
        return now.size >= MOST_ARRIVALS ? FULL : 0;
    }

    private static int ofRange(int many, int least, int greatest, int what) {
        if (what == 0) {
            return many;
        }
        if (many <= 0) {
            return NONE;
        }
        return what == 1 ? least : greatest;
    }

    private static int power(int base, int times) {
        int product = 1;
        for (int i = 0; i < times; i++) {
            product *= base;
        }
        return product;
    }

    private int standing(Hearing hearing) {
        numberings.begin(hearing);
        return numberings.tally(MOST_STEPS);
    }

    /** Whether there is a k-th numbering; then numberings stands at it. */
    private boolean goesTo(int k) {
        if (k < 0 || k >= MOST_STEPS) {
            return false;
        }
        numberings.begin(now);
        return numberings.tally(k + 1) == k + 1;
    }

    private int certain() {
        numberings.begin(now);
        if (!numberings.next()) {
            return 0;
        }
        int same = (1 << now.size) - 1;
        for (int a = 0; a < now.size; a++) {
            firstNumbers[a] = numberings.numbers[a];
        }
        for (int k = 0; k < MOST_STEPS && numberings.next(); k++) {
            for (int a = 0; a < now.size; a++) {
                if (numberings.numbers[a] != firstNumbers[a]) {
                    same &= ~(1 << a);
                }
            }
        }
        return same;
    }

    /** Each numbering is gone through once for all the times, which all lie behind the last arrival. */
    private void tellLeftBy(int first, int many) {
        for (int t = 0; t < LISTENED; t++) {
            leftBy[t] = 0;
        }
        numberings.begin(now);
        for (int k = 0; k < MOST_STEPS && numberings.next(); k++) {
            for (int t = 0; t < many && t < LISTENED; t++) {
                leftBy[t] += numberings.further(first + t);
            }
        }
    }

    /** Whether just one numbering stands of the arrivals that stay (bits). */
    private boolean leavesOne(int staying) {
        trial.take(now);
        trial.size = 0;
        for (int a = 0; a < now.size; a++) {
            if ((staying >> a & 1) == 1) {
                trial.place(now.times[a]);
            }
        }
        numberings.begin(trial);
        return numberings.tally(2) == 1;
    }

    /** Arrivals by rising times, the box and the slack. */
    private static final class Hearing {
        final int[] times = new int[MOST_ARRIVALS];
        int size;
        int low;
        int high;
        int slack;

        Hearing() {
            reset();
        }

        void reset() {
            size = 0;
            low = FIRST_LOW;
            high = FIRST_HIGH;
            slack = FIRST_SLACK;
        }

        void take(Hearing other) {
            for (int a = 0; a < MOST_ARRIVALS; a++) {
                times[a] = other.times[a];
            }
            size = other.size;
            low = other.low;
            high = other.high;
            slack = other.slack;
        }

        boolean hasArrival(int k) {
            return k >= 0 && k < size && k < MOST_ARRIVALS;
        }

        boolean hears(int time) {
            for (int a = 0; a < size; a++) {
                if (times[a] == time) {
                    return true;
                }
            }
            return false;
        }

        /** The number that the new arrival has by times. */
        int place(int time) {
            if (size >= MOST_ARRIVALS) {
                return FULL;
            }
            int at = size;
            for (int a = size - 1; a >= 0 && times[a] > time; a--) {
                times[a + 1] = times[a];
                at = a;
            }
            times[at] = time;
            size++;
            return at;
        }

        int drop(int k) {
            if (!hasArrival(k)) {
                return BAD;
            }
            int time = times[k];
            for (int a = k; a < size - 1; a++) {
                times[a] = times[a + 1];
            }
            size--;
            return time;
        }
    }

    /** What was heard ahead of the latest changes, as a ring, so that the oldest gives way. */
    private static final class Past {
        private final Hearing[] ring = new Hearing[MOST_UNDONE];
        private int next;
        int size;

        Past() {
            for (int i = 0; i < MOST_UNDONE; i++) {
                ring[i] = new Hearing();
            }
        }

        void push(Hearing hearing) {
            ring[next].take(hearing);
            next = next + 1 < MOST_UNDONE ? next + 1 : 0;
            size = Math.min(size + 1, MOST_UNDONE);
        }

        boolean pull(Hearing into) {
            if (size <= 0) {
                return false;
            }
            next = next > 0 ? next - 1 : MOST_UNDONE - 1;
            size--;
            into.take(ring[next]);
            return true;
        }

        void forget() {
            size = 0;
        }
    }

    /** Holds the text and reads it. */
    private static final class Reader {
        // What the next token must be.
        private static final int ITEM = 0, LOW = 1, HIGH = 2, SLACK = 3, TIME = 4, END = 5;
        // Above all that a number may be; longer ones stop here, so that none runs over.
        private static final int TOO_MUCH = 10000;

        private final char[] letters = new char[MOST_LETTERS];
        int length;
        private int awaited;
        private boolean boxTold;
        private int items;

        int put(int letter) {
            if (length >= MOST_LETTERS) {
                return FULL;
            }
            letters[length] = (char) letter;
            length++;
            return length;
        }

        int wipe() {
            int had = length;
            length = 0;
            return had;
        }

        /** How many items there are, all of them told to the hearing, or -10 less the fault. */
        int read(Hearing told) {
            told.reset();
            awaited = ITEM;
            boxTold = false;
            items = 0;
            int last = -1;
            for (int at = 0; at < length; at++) {
                if (at > last && letters[at] != ' ') {
                    last = lastOfToken(at);
                    if (!takes(letters[at], valueOfToken(at, last), told)) {
                        return -10 - at;
                    }
                }
            }
            return awaited == ITEM ? items : -10 - length;
        }

        private boolean isDigit(int at) {
            return letters[at] >= '0' && letters[at] <= '9';
        }

        private int lastOfToken(int from) {
            int last = from;
            for (int at = from + 1; at < length && isDigit(from) && isDigit(at); at++) {
                last = at;
            }
            return last;
        }

        /** Below 0, if the token is no number that can stand anywhere. */
        private int valueOfToken(int from, int last) {
            if (!isDigit(from) || letters[from] == '0' && last > from) {
                return -1;
            }
            int value = 0;
            for (int at = from; at <= last && value < TOO_MUCH; at++) {
                value = value * 10 + (letters[at] - '0');
            }
            return value < TOO_MUCH ? value : -1;
        }

        private boolean takes(char letter, int value, Hearing told) {
            switch (awaited) {
                case ITEM:
                    return takesItem(letter, told);
                case LOW:
                    told.low = value;
                    awaited = HIGH;
                    return isLow(value);
                case HIGH:
                    told.high = value;
                    awaited = SLACK;
                    return isHigh(told.low, value);
                case SLACK:
                    told.slack = value;
                    awaited = END;
                    return isSlack(told.low, value);
                case TIME:
                    return takesTime(value, told);
                default:
                    items++;
                    awaited = ITEM;
                    return letter == ';';
            }
        }

        private boolean takesItem(char letter, Hearing told) {
            if (letter == 'b' && !boxTold) {
                boxTold = true;
                awaited = LOW;
                return true;
            }
            if (letter == 't' && told.size < MOST_ARRIVALS) {
                awaited = TIME;
                return true;
            }
            return false;
        }

        private boolean takesTime(int value, Hearing told) {
            if (!isTime(value) || told.hears(value)) {
                return false;
            }
            told.place(value);
            awaited = END;
            return true;
        }
    }

    /** Fractions in least terms. */
    private static final class Fraction {
        /** The upper (what = 0) or the lower number of a fraction whose lower number is above 0. */
        static int part(int upper, int lower, int what) {
            int divisor = commonDivisor(Math.abs(upper), lower);
            if (divisor <= 0) {
                return 0;
            }
            return what == 0 ? upper / divisor : lower / divisor;
        }

        private static int commonDivisor(int one, int other) {
            int greater = one;
            int rest = other;
            for (int step = 0; step < MOST_STEPS && rest != 0; step++) {
                int next = greater % rest;
                greater = rest;
                rest = next;
            }
            return greater;
        }
    }

    /** All periods from one fraction to another; each number of both is above 0. */
    private static final class Periods {
        private int lowUpper = 1;
        private int lowLower = 1;
        private int highUpper = 1;
        private int highLower = 1;

        void spread(int low, int high) {
            lowUpper = low;
            lowLower = 1;
            highUpper = high;
            highLower = 1;
        }

        void take(Periods other) {
            lowUpper = other.lowUpper;
            lowLower = other.lowLower;
            highUpper = other.highUpper;
            highLower = other.highLower;
        }

        boolean isEmpty() {
            return lowUpper * highLower > highUpper * lowLower;
        }

        /**
         * Periods go by which so many turns (1 or more) don't come within the room of what two
         * arrivals are apart; whether any went.
         */
        boolean cut(int apart, int room, int turns) {
            boolean went = false;
            if ((apart - room) * lowLower > lowUpper * turns) {
                lowUpper = apart - room;
                lowLower = turns;
                went = true;
            }
            if ((apart + room) * highLower < highUpper * turns) {
                highUpper = apart + room;
                highLower = turns;
                went = true;
            }
            return went;
        }

        /** The least number of turns that the longest period needs. */
        int leastTurns(int apart, int room) {
            if (apart <= room || highUpper <= 0) {
                return 0;
            }
            return ((apart - room) * highLower + highUpper - 1) / highUpper;
        }

        /** The greatest number of turns that the shortest period has room for. */
        int greatestTurns(int apart, int room) {
            if (lowUpper <= 0) {
                return 0;
            }
            return (apart + room) * lowLower / lowUpper;
        }

        int leastCount(Hearing hearing, int i, int j) {
            int apart = hearing.times[j] - hearing.times[i];
            return Math.max(j - i, leastTurns(apart, 2 * hearing.slack));
        }

        int greatestCount(Hearing hearing, int i, int j) {
            return greatestTurns(hearing.times[j] - hearing.times[i], 2 * hearing.slack);
        }

        /** Becomes the narrowed box; whether anything is left. */
        boolean narrow(Hearing hearing) {
            spread(hearing.low, hearing.high);
            boolean changed = true;
            // Two arrivals that have one count keep it, so each two cut once at most.
            for (int round = 0; round <= MOST_ARRIVALS * MOST_ARRIVALS && changed; round++) {
                changed = false;
                for (int j = 1; j < hearing.size; j++) {
                    for (int i = 0; i < j; i++) {
                        if (leastCount(hearing, i, j) > greatestCount(hearing, i, j)) {
                            return false;
                        }
                        if (cutByTwo(hearing, i, j)) {
                            changed = true;
                        }
                    }
                }
            }
            return !isEmpty();
        }

        /** Two arrivals that have just one count cut by it; whether any periods went. */
        private boolean cutByTwo(Hearing hearing, int i, int j) {
            int only = leastCount(hearing, i, j);
            if (only != greatestCount(hearing, i, j)) {
                return false;
            }
            return cut(hearing.times[j] - hearing.times[i], 2 * hearing.slack, only);
        }

        /** The upper, the lower number of the least period (0, 1), of the greatest (2, 3). */
        int part(int what) {
            return what < 2
                ? Fraction.part(lowUpper, lowLower, what)
                : Fraction.part(highUpper, highLower, what - 2);
        }
    }

    /**
     * Goes through the numberings that stand, in their order: the numbers of the arrivals ahead leave
     * some periods, and only numbers that these bear out are tried for the next arrival.
     */
    private static final class Numberings {
        private final int[] times = new int[MOST_ARRIVALS];
        final int[] numbers = new int[MOST_ARRIVALS];
        private final int[] greatest = new int[MOST_ARRIVALS];
        // Row a: the periods that the numbers of arrivals 0 to a leave.
        private final Periods[] leaves = new Periods[MOST_ARRIVALS];
        private int size;
        private int room;
        private boolean begun;
        private boolean ended;

        Numberings() {
            for (int a = 0; a < MOST_ARRIVALS; a++) {
                leaves[a] = new Periods();
            }
        }

        void begin(Hearing hearing) {
            for (int a = 0; a < MOST_ARRIVALS; a++) {
                times[a] = hearing.times[a];
            }
            size = hearing.size;
            room = 2 * hearing.slack;
            begun = false;
            ended = size <= 0;
            numbers[0] = 0;
            leaves[0].spread(hearing.low, hearing.high);
        }

        /** Goes to the next numbering; false: there is none. */
        boolean next() {
            if (ended) {
                return false;
            }
            int from = size - 1;
            if (!begun) {
                begun = true;
                if (size == 1) {
                    return true;
                }
                open(1);
                from = 1;
            }
            ended = !search(from);
            return !ended;
        }

        /** Tries further numbers, first those of one arrival, then of the ones ahead. */
        private boolean search(int from) {
            int a = from;
            for (int step = 0; step < MOST_STEPS && a >= 1; step++) {
                if (numbers[a] >= greatest[a]) {
                    a--;
                } else {
                    numbers[a]++;
                    if (fits(a)) {
                        if (a == size - 1) {
                            return true;
                        }
                        a++;
                        open(a);
                    }
                }
            }
            return false;
        }

        /** How many numberings more there are, counted up to a limit. */
        int tally(int limit) {
            int many = 0;
            while (many < limit && next()) {
                many++;
            }
            return many;
        }

        /** How many numbers an arrival behind the last one could have in this numbering. */
        int further(int time) {
            if (size < 1 || size >= MOST_ARRIVALS) {
                return 0;
            }
            times[size] = time;
            open(size);
            int many = 0;
            for (int number = numbers[size] + 1; number <= greatest[size]; number++) {
                numbers[size] = number;
                if (fits(size)) {
                    many++;
                }
            }
            return many;
        }

        int boxPart(int what) {
            return size >= 1 && size <= MOST_ARRIVALS ? leaves[size - 1].part(what) : NONE;
        }

        /** Sets the number of arrival a (1 or more) just below the first one to be tried. */
        private void open(int a) {
            int apart = times[a] - times[0];
            int least = leaves[a - 1].leastTurns(apart, room);
            numbers[a] = Math.max(numbers[a - 1] + 1, least) - 1;
            greatest[a] = leaves[a - 1].greatestTurns(apart, room);
        }

        private boolean fits(int a) {
            Periods some = leaves[a];
            some.take(leaves[a - 1]);
            for (int i = 0; i < a; i++) {
                some.cut(times[a] - times[i], room, numbers[a] - numbers[i]);
                if (some.isEmpty()) {
                    return false;
                }
            }
            return true;
        }
    }
}
