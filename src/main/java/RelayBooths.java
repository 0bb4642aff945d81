/** A chain of interpreters at a summit: who said what and when, and how much of the speech came through. */
public final class RelayBooths {
    private static final int NONE = -1;
    private static final int LANGUAGES = 8;
    private static final int WORDS = 100;
    private static final int FIRST_IDIOM = 80;
    private static final int MOST_IDIOM_SETS = 1 << 20;
    private static final int MOST_BOOTHS = 6;
    private static final int MOST_INTERPRETERS = 8;
    private static final int MOST_TEXT = 120;
    private static final int MOST_ADDED = 40;
    private static final int MOST_LAG = 9;
    private static final int MOST_MEMORY = 12;
    private static final int MOST_TICKS = 400;
    private static final int MOST_PASSED = 100;
    private static final int MOST_ADVISED = 40;
    private static final int TIRED = 20;
    private static final int COUNTS = 10;
    private static final int BOOTH_FACTS = 12;
    private static final int INTERPRETER_FACTS = 7;

    private final Summit now;
    /** Looking ahead is done on this one, made once, so that no call makes objects. */
    private final Summit trial;

    public RelayBooths() {
        Comparison comparison = new Comparison();
        now = new Summit(comparison);
        trial = new Summit(comparison);
    }

    // ---- the floor

    public int setFloor(int language) throws IllegalArgumentException {
        demand(isWithin(language, 0, LANGUAGES - 1));
        int before = now.floorLanguage;
        now.floorLanguage = language;
        return before;
    }

    public int speak(int word, int step, int times) throws IllegalArgumentException, IllegalStateException {
        demand(isWithin(word, 0, WORDS - 1) && isWithin(step, 1 - WORDS, WORDS - 1));
        demand(isWithin(times, 1, MOST_ADDED));
        allow(now.text.size + times <= MOST_TEXT);
        for (int i = 0; i < times; i++) {
            now.text.add(Math.floorMod(word + i * step, WORDS));
        }
        return now.text.size;
    }

    public int rest(int times) throws IllegalArgumentException, IllegalStateException {
        demand(isWithin(times, 1, MOST_ADDED));
        allow(now.text.size + times <= MOST_TEXT);
        for (int i = 0; i < times; i++) {
            now.text.add(NONE);
        }
        return now.text.size;
    }

    // ---- booths and interpreters

    public int addInterpreter(int languages, int idioms) throws IllegalArgumentException, IllegalStateException {
        demand(isWithin(languages, 0, (1 << LANGUAGES) - 1));
        demand(isWithin(idioms, 0, MOST_IDIOM_SETS - 1));
        allow(now.interpreterCount < MOST_INTERPRETERS);
        return now.enrol(languages, idioms);
    }

    public int addBooth(int language, int lag, int memory) throws IllegalArgumentException, IllegalStateException {
        demand(isWithin(language, 0, LANGUAGES - 1) && isWithin(lag, 1, MOST_LAG));
        demand(isWithin(memory, 1, MOST_MEMORY));
        allow(now.boothCount < MOST_BOOTHS);
        return now.build(language, lag, memory);
    }

    public int tune(int booth, int source) throws IndexOutOfBoundsException, IllegalArgumentException {
        find(now.hasBooth(booth) && (source == NONE || now.hasBooth(source)));
        demand(!now.comesBy(source, booth));
        int before = now.booths[booth].source;
        now.booths[booth].source = source;
        return before;
    }

    public int sit(int booth, int interpreter) throws IndexOutOfBoundsException {
        find(now.hasBooth(booth) && (interpreter == NONE || now.hasInterpreter(interpreter)));
        return now.seat(booth, interpreter);
    }

    public int swap(int a, int b) throws IndexOutOfBoundsException, IllegalArgumentException {
        find(now.hasBooth(a) && now.hasBooth(b));
        demand(a != b);
        int fromA = now.seat(a, NONE);
        int fromB = now.seat(b, fromA);
        now.seat(a, fromB);
        return (now.isAble(a) ? 1 : 0) + (now.isAble(b) ? 1 : 0);
    }

    public int booth(int booth, int what) throws IndexOutOfBoundsException {
        find(now.hasBooth(booth) && isWithin(what, 0, BOOTH_FACTS - 1));
        return now.tellBooth(booth, what);
    }

    public int interpreter(int interpreter, int what) throws IndexOutOfBoundsException {
        find(now.hasInterpreter(interpreter) && isWithin(what, 0, INTERPRETER_FACTS - 1));
        return now.interpreters[interpreter].tell(what);
    }

    // ---- ticks

    public int pass(int ticks) throws IllegalArgumentException, IllegalStateException {
        demand(isWithin(ticks, 1, MOST_PASSED));
        allow(now.tick + ticks <= MOST_TICKS);
        return now.goOn(ticks);
    }

    public int said(int source, int index, boolean isTick) throws IndexOutOfBoundsException {
        find(source == NONE || now.hasBooth(source));
        Speech speech = now.speechOf(source);
        find(isWithin(index, 0, speech.size - 1));
        return isTick ? speech.tickAt(index) : speech.wordAt(index);
    }

    public int count(int what) throws IndexOutOfBoundsException {
        find(isWithin(what, 0, COUNTS - 1));
        return now.tellCount(what);
    }

    // ---- looking ahead

    public int foresee(int booth, int ticks, int what)
            throws IndexOutOfBoundsException, IllegalArgumentException, IllegalStateException {
        find(now.hasBooth(booth) && isWithin(what, 0, 2));
        demand(isWithin(ticks, 1, MOST_PASSED));
        allow(now.tick + ticks <= MOST_TICKS);
        trial.copyFrom(now);
        trial.goOn(ticks);
        switch (what) {
            case 0:
                return trial.cameThroughAt(booth);
            case 1:
                return trial.booths[booth].lost;
            default:
                return trial.booths[booth].speech.size;
        }
    }

    public int advise(int booth, int ticks)
            throws IndexOutOfBoundsException, IllegalArgumentException, IllegalStateException {
        find(now.hasBooth(booth));
        demand(isWithin(ticks, 1, MOST_ADVISED));
        allow(now.tick + ticks <= MOST_TICKS);
        int best = NONE;
        int most = NONE;
        for (int i = 0; i < now.interpreterCount; i++) {
            int place = now.interpreters[i].place;
            if (place == NONE || place == booth) {
                int came = tryOut(booth, i, ticks);
                if (came > most) {
                    most = came;
                    best = i;
                }
            }
        }
        return best;
    }

    public double through() {
        int parts = now.boothCount * now.floor.size;
        if (parts == 0) {
            return 0.0;
        }
        int sum = 0;
        for (int b = 0; b < now.boothCount; b++) {
            sum += now.cameThroughAt(b);
        }
        return (double) sum / (double) parts;
    }

    public long digest() {
        long d = 523L;
        for (int what = 0; what < COUNTS; what++) {
            d = d * 31L + now.tellCount(what);
        }
        for (int i = 0; i < now.interpreterCount; i++) {
            for (int what = 0; what < INTERPRETER_FACTS; what++) {
                d = d * 31L + now.interpreters[i].tell(what);
            }
        }
        for (int b = 0; b < now.boothCount; b++) {
            for (int what = 0; what < BOOTH_FACTS; what++) {
                d = d * 31L + now.tellBooth(b, what);
            }
        }
        for (int source = NONE; source < now.boothCount; source++) {
            d = now.speechOf(source).mixInto(d);
        }
        return d;
    }

    /** What would have come through at a booth, if this interpreter sat there from now on. */
    private int tryOut(int booth, int interpreter, int ticks) {
        trial.copyFrom(now);
        trial.seat(booth, interpreter);
        trial.goOn(ticks);
        return trial.cameThroughAt(booth);
    }

    private static boolean isWithin(int number, int least, int most) {
        return number >= least && number <= most;
    }

    private static void find(boolean exists) {
        if (!exists) {
            throw new IndexOutOfBoundsException("there is no such thing");
        }
    }

    private static void demand(boolean isRight) {
        if (!isRight) {
            throw new IllegalArgumentException("an argument is not allowed");
        }
    }

    private static void allow(boolean hasRoom) {
        if (!hasRoom) {
            throw new IllegalStateException("there is no room for it");
        }
    }

    /** Numbers that wait in a row of limited room; the first one leaves first. */
    private static final class Row {
        final int[] items;
        int size;

        Row(int room) {
            items = new int[room < 0 ? 0 : room];
        }

        void add(int item) {
            if (size < items.length) {
                items[size] = item;
                size++;
            }
        }

        int first() {
            return size > 0 && size <= items.length ? items[0] : NONE;
        }

        int takeFirst() {
            if (size <= 0 || size > items.length) {
                return NONE;
            }
            int item = items[0];
            size--;
            System.arraycopy(items, 1, items, 0, size);
            return item;
        }

        void copyFrom(Row other) {
            size = Math.min(other.size, items.length);
            System.arraycopy(other.items, 0, items, 0, size);
        }
    }

    /** The words that were said in one place, each with its tick; at most one in a tick. */
    private static final class Speech {
        final int[] words = new int[MOST_TICKS];
        final int[] ticks = new int[MOST_TICKS];
        int size;

        void add(int word, int tick) {
            if (size < MOST_TICKS) {
                words[size] = word;
                ticks[size] = tick;
                size++;
            }
        }

        int wordAt(int index) {
            return isWithin(index, 0, size - 1) ? words[index] : NONE;
        }

        int tickAt(int index) {
            return isWithin(index, 0, size - 1) ? ticks[index] : NONE;
        }

        /** The word of this tick, if it is the newest one; else none. */
        int wordOfTick(int tick) {
            return size > 0 && tickAt(size - 1) == tick ? wordAt(size - 1) : NONE;
        }

        long mixInto(long start) {
            long d = start;
            for (int i = 0; i < size; i++) {
                d = d * 31L + wordAt(i);
                d = d * 31L + tickAt(i);
            }
            return d;
        }

        void copyFrom(Speech other) {
            size = Math.min(other.size, MOST_TICKS);
            System.arraycopy(other.words, 0, words, 0, size);
            System.arraycopy(other.ticks, 0, ticks, 0, size);
        }
    }

    private static final class Interpreter {
        int languages;
        int idioms;
        int place = NONE;
        int fatigue;
        int words;
        int mistakes;
        int retold;

        boolean speaks(int language) {
            return (languages >> language & 1) == 1;
        }

        boolean isLostFor(int word) {
            return word >= FIRST_IDIOM && (idioms >> (word - FIRST_IDIOM) & 1) == 0;
        }

        /** Says a word and returns what really comes out. */
        int utter(int word) {
            int uttered = word;
            if (fatigue >= TIRED && words % 3 == 0 && word < FIRST_IDIOM) {
                uttered = word == FIRST_IDIOM - 1 ? 0 : word + 1;
                mistakes++;
            }
            words++;
            fatigue++;
            return uttered;
        }

        void recover(int by) {
            fatigue = Math.max(0, fatigue - by);
        }

        int tell(int what) {
            switch (what) {
                case 0:
                    return languages;
                case 1:
                    return idioms;
                case 2:
                    return place;
                case 3:
                    return fatigue;
                case 4:
                    return words;
                case 5:
                    return mistakes;
                default:
                    return retold;
            }
        }

        void copyFrom(Interpreter other) {
            languages = other.languages;
            idioms = other.idioms;
            place = other.place;
            fatigue = other.fatigue;
            words = other.words;
            mistakes = other.mistakes;
            retold = other.retold;
        }
    }

    private static final class Booth {
        final Row words = new Row(MOST_MEMORY);
        final Row arrivals = new Row(MOST_MEMORY);
        final Speech speech = new Speech();
        int language;
        int lag;
        int memory;
        int source = NONE;
        int sitter = NONE;
        int secondPart = NONE;
        int lost;

        boolean isFirstWordDue(int tick) {
            return words.size > 0 && tick - arrivals.first() >= lag;
        }

        int takeFirstWord() {
            arrivals.takeFirst();
            return words.takeFirst();
        }

        void hear(int word, int tick) {
            if (words.size >= memory) {
                lost++;
            } else {
                words.add(word);
                arrivals.add(tick);
            }
        }

        void copyFrom(Booth other) {
            words.copyFrom(other.words);
            arrivals.copyFrom(other.arrivals);
            speech.copyFrom(other.speech);
            language = other.language;
            lag = other.lag;
            memory = other.memory;
            source = other.source;
            sitter = other.sitter;
            secondPart = other.secondPart;
            lost = other.lost;
        }
    }

    /** Everything that changes; it can be copied, so that ticks may go by for a trial. */
    private static final class Summit {
        final Comparison comparison;
        final Row text = new Row(MOST_TEXT);
        final Speech floor = new Speech();
        final Booth[] booths = new Booth[MOST_BOOTHS];
        final Interpreter[] interpreters = new Interpreter[MOST_INTERPRETERS];
        int floorLanguage;
        int boothCount;
        int interpreterCount;
        int tick;

        Summit(Comparison comparison) {
            this.comparison = comparison;
            for (int b = 0; b < MOST_BOOTHS; b++) {
                booths[b] = new Booth();
            }
            for (int i = 0; i < MOST_INTERPRETERS; i++) {
                interpreters[i] = new Interpreter();
            }
        }

        boolean hasBooth(int booth) {
            return booth >= 0 && booth < boothCount;
        }

        boolean hasInterpreter(int interpreter) {
            return interpreter >= 0 && interpreter < interpreterCount;
        }

        Speech speechOf(int source) {
            return hasBooth(source) ? booths[source].speech : floor;
        }

        int languageOf(int source) {
            return hasBooth(source) ? booths[source].language : floorLanguage;
        }

        boolean isAble(int booth) {
            Booth here = booths[booth];
            if (!hasInterpreter(here.sitter)) {
                return false;
            }
            Interpreter sitter = interpreters[here.sitter];
            return sitter.speaks(here.language) && sitter.speaks(languageOf(here.source));
        }

        int enrol(int languages, int idioms) {
            if (interpreterCount >= MOST_INTERPRETERS) {
                return NONE;
            }
            interpreters[interpreterCount].languages = languages;
            interpreters[interpreterCount].idioms = idioms;
            interpreterCount++;
            return interpreterCount - 1;
        }

        int build(int language, int lag, int memory) {
            if (boothCount >= MOST_BOOTHS) {
                return NONE;
            }
            booths[boothCount].language = language;
            booths[boothCount].lag = lag;
            booths[boothCount].memory = memory;
            boothCount++;
            return boothCount - 1;
        }

        /** Has an interpreter, or nobody, sit in a booth; returns who sat there. */
        int seat(int booth, int interpreter) {
            int before = booths[booth].sitter;
            if (before == interpreter) {
                return before;
            }
            if (hasInterpreter(before)) {
                interpreters[before].place = NONE;
            }
            if (hasInterpreter(interpreter)) {
                int left = interpreters[interpreter].place;
                if (hasBooth(left)) {
                    booths[left].sitter = NONE;
                }
                interpreters[interpreter].place = booth;
            }
            booths[booth].sitter = interpreter;
            return before;
        }

        /** How many booths there are from a place back to the floor, the place itself counted. */
        int chainLength(int place) {
            int length = 0;
            for (int at = place; hasBooth(at) && length < MOST_BOOTHS; at = booths[at].source) {
                length++;
            }
            return length;
        }

        /** Whether a place, or a source behind it, is this booth. */
        boolean comesBy(int place, int booth) {
            int at = place;
            for (int steps = 0; hasBooth(at) && steps < MOST_BOOTHS; steps++) {
                if (at == booth) {
                    return true;
                }
                at = booths[at].source;
            }
            return false;
        }

        /** Lets ticks go by; returns how many words booths said in them. */
        int goOn(int ticks) {
            int uttered = 0;
            for (int i = 0; i < ticks; i++) {
                letFloorSpeak();
                for (int b = 0; b < boothCount; b++) {
                    uttered += work(b);
                }
                letBoothsHear();
                letOthersRecover();
                tick++;
            }
            return uttered;
        }

        private void letFloorSpeak() {
            int word = text.takeFirst();
            if (word != NONE) {
                floor.add(word, tick);
            }
        }

        private void letBoothsHear() {
            for (int b = 0; b < boothCount; b++) {
                int word = speechOf(booths[b].source).wordOfTick(tick);
                if (word != NONE) {
                    booths[b].hear(word, tick);
                }
            }
        }

        private void letOthersRecover() {
            for (int i = 0; i < interpreterCount; i++) {
                if (interpreters[i].place == NONE) {
                    interpreters[i].recover(2);
                }
            }
        }

        /** What is done in a booth in a tick; returns how many words are said there. */
        private int work(int booth) {
            Booth here = booths[booth];
            if (!isAble(booth)) {
                workUnable(here);
                return 0;
            }
            Interpreter sitter = interpreters[here.sitter];
            int word = nextWord(here, sitter);
            if (word == NONE) {
                sitter.recover(1);
                return 0;
            }
            here.speech.add(sitter.utter(word), tick);
            return 1;
        }

        private void workUnable(Booth here) {
            // a second part that is lost keeps the memory as it is for this tick, but not the sitter's fatigue
            if (here.secondPart != NONE) {
                here.secondPart = NONE;
                here.lost++;
            } else if (here.isFirstWordDue(tick)) {
                here.takeFirstWord();
                here.lost++;
            }
            if (hasInterpreter(here.sitter)) {
                interpreters[here.sitter].recover(1);
            }
        }

        /** The word that is to be said in an able booth now, as it is before a mistake; else none. */
        private int nextWord(Booth here, Interpreter sitter) {
            if (here.secondPart != NONE) {
                int second = here.secondPart;
                here.secondPart = NONE;
                return second;
            }
            if (!here.isFirstWordDue(tick)) {
                return NONE;
            }
            int word = here.takeFirstWord();
            if (!sitter.isLostFor(word)) {
                return word;
            }
            int firstPart = (word - FIRST_IDIOM) * 4;
            here.secondPart = firstPart + 1;
            sitter.retold++;
            return firstPart;
        }

        int cameThroughAt(int booth) {
            return comparison.mostInCommon(floor, booths[booth].speech);
        }

        int tellBooth(int booth, int what) {
            Booth here = booths[booth];
            switch (what) {
                case 0:
                    return here.language;
                case 1:
                    return here.lag;
                case 2:
                    return here.memory;
                case 3:
                    return here.source;
                case 4:
                    return here.sitter;
                case 5:
                    return here.words.size;
                case 6:
                    return here.speech.size;
                case 7:
                    return here.lost;
                case 8:
                    return chainLength(booth);
                case 9:
                    return here.secondPart == NONE ? 0 : 1;
                case 10:
                    return isAble(booth) ? 1 : 0;
                default:
                    return cameThroughAt(booth);
            }
        }

        int tellCount(int what) {
            switch (what) {
                case 0:
                    return tick;
                case 1:
                    return floorLanguage;
                case 2:
                    return text.size;
                case 3:
                    return floor.size;
                case 4:
                    return boothCount;
                case 5:
                    return interpreterCount;
                default:
                    return sumOverBooths(what);
            }
        }

        private int sumOverBooths(int what) {
            int sum = 0;
            for (int b = 0; b < boothCount; b++) {
                switch (what) {
                    case 6:
                        sum += booths[b].speech.size;
                        break;
                    case 7:
                        sum += booths[b].lost;
                        break;
                    case 8:
                        sum += booths[b].words.size;
                        break;
                    default:
                        sum += isAble(b) ? 1 : 0;
                        break;
                }
            }
            return sum;
        }

        void copyFrom(Summit other) {
            text.copyFrom(other.text);
            floor.copyFrom(other.floor);
            floorLanguage = other.floorLanguage;
            boothCount = other.boothCount;
            interpreterCount = other.interpreterCount;
            tick = other.tick;
            for (int b = 0; b < boothCount; b++) {
                booths[b].copyFrom(other.booths[b]);
            }
            for (int i = 0; i < interpreterCount; i++) {
                interpreters[i].copyFrom(other.interpreters[i]);
            }
        }
    }

    /**
     * Finds the greatest number of words that stand in both of two speeches in the same order.
     * advise compares up to 8 times 400 words with 400, so the usual table of all pairs is not
     * gone through cell by cell: a block of 60 of its columns is held as the bits of one long.
     */
    private static final class Comparison {
        private static final int BLOCK = 60;
        private static final long ALL_OPEN = (1L << BLOCK) - 1L;

        /** For each word, where it stands in the block, as bits. */
        final long[] places = new long[WORDS];
        /** For each word of the other speech, what its sum carries into the next block. */
        final long[] carries = new long[MOST_TICKS];

        int mostInCommon(Speech one, Speech other) {
            for (int i = 0; i < MOST_TICKS; i++) {
                carries[i] = 0L;
            }
            int common = 0;
            for (int from = 0; from < one.size; from += BLOCK) {
                markPlaces(one, from);
                common += closedInBlock(other);
            }
            return common;
        }

        private void markPlaces(Speech speech, int from) {
            for (int word = 0; word < WORDS; word++) {
                places[word] = 0L;
            }
            for (int k = 0; k < BLOCK && from + k < speech.size; k++) {
                int word = speech.wordAt(from + k);
                if (isWithin(word, 0, WORDS - 1)) {
                    places[word] |= 1L << k;
                }
            }
        }

        /**
         * A bit is closed where the table's row rises by 1. Each word moves the rise behind a run of
         * open bits to the first of its own places in that run, or sets one there: the sum does this
         * for all runs of the block at once, and its carry does it for a run that ends in the next one.
         */
        private int closedInBlock(Speech speech) {
            long open = ALL_OPEN;
            for (int i = 0; i < speech.size && i < MOST_TICKS; i++) {
                int word = speech.wordAt(i);
                long met = isWithin(word, 0, WORDS - 1) ? open & places[word] : 0L;
                long sum = open + met + carries[i];
                carries[i] = sum >>> BLOCK;
                open = (sum | (open & ~met)) & ALL_OPEN;
            }
            return BLOCK - Long.bitCount(open);
        }
    }
}
