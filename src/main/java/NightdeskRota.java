/** Guards of a night, and what each knows that the others know. */
public final class NightdeskRota {

    private static final int NONE = -1;
    private static final int ENDLESS = 99;
    private static final int FACTS = 6;
    private static final int WORLDS = 64;
    private static final int GUARDS = 6;
    private static final int ALL_GUARDS = 63;
    private static final int MOST_SENTENCES = 40;
    private static final int DEEPEST_TEXT = 6;

    private static final int FACT = 0;
    private static final int NOT = 1;
    private static final int AND = 2;
    private static final int OR = 3;
    private static final int KNOWS = 4;
    private static final int ALL_KNOW = 5;
    private static final int COMMON = 6;
    private static final int TOGETHER = 7;

    /** For each fact the set of the worlds in which it is so. */
    private static final long[] WORLDS_OF_FACT = {
        0xAAAAAAAAAAAAAAAAL,
        0xCCCCCCCCCCCCCCCCL,
        0xF0F0F0F0F0F0F0F0L,
        0xFF00FF00FF00FF00L,
        0xFFFF0000FFFF0000L,
        0xFFFFFFFF00000000L
    };

    private final Book book;
    private final Scene now;
    /** What would be behind one note, one telling or some asks; made once, as no call may make rows. */
    private final Scene once;
    /** What would be behind a second note. */
    private final Scene twice;
    private int toldAloud;
    private int whispered;
    private int noted;
    private int asked;
    private int looked;
    private int switched;
    private int refused;

    public NightdeskRota() {
        book = new Book();
        now = new Scene(book);
        once = new Scene(book);
        twice = new Scene(book);
        now.restart(0);
    }

    // ---- the night

    public int begin(int real) throws IllegalArgumentException {
        if (!isWorld(real)) {
            throw new IllegalArgumentException("no such world");
        }
        now.restart(real);
        return now.countTrueInReal();
    }

    public int say(int kind, int a, int b) throws IllegalArgumentException, IllegalStateException {
        if (!book.fits(kind, a, b)) {
            throw new IllegalArgumentException("no such sentence can be built");
        }
        if (book.isFull()) {
            throw new IllegalStateException("there are 40 sentences");
        }
        int number = book.add(kind, a, b);
        now.weigh(setOf(number));
        return number;
    }

    public int look(int guard, int fact) throws IndexOutOfBoundsException {
        if (!isGuard(guard) || !isFact(fact)) {
            throw new IndexOutOfBoundsException("no such guard or fact");
        }
        looked++;
        now.tellApart(guard, worldsOfFact(fact));
        now.weigh(book.everySentence());
        return Long.bitCount(now.cell(guard, now.real));
    }

    public int aloud(int sentence) throws IndexOutOfBoundsException, IllegalStateException {
        if (!book.holds(sentence)) {
            throw new IndexOutOfBoundsException("no such sentence");
        }
        if (!now.isTrueInReal(sentence)) {
            throw new IllegalStateException("it is not true");
        }
        toldAloud++;
        now.keepOnly(now.worldsOf(sentence));
        now.weigh(book.everySentence());
        return Long.bitCount(now.open);
    }

    public boolean whisper(int guard, int sentence) throws IndexOutOfBoundsException {
        if (!isGuard(guard) || !book.holds(sentence)) {
            throw new IndexOutOfBoundsException("no such guard or sentence");
        }
        boolean was = now.isTrueInReal(sentence);
        whispered++;
        now.tellApart(guard, now.worldsOf(sentence));
        now.weigh(book.everySentence());
        return was;
    }

    public int note(int from, int to) throws IndexOutOfBoundsException, IllegalArgumentException {
        if (!isGuard(from) || !isGuard(to)) {
            throw new IndexOutOfBoundsException("no such guard");
        }
        if (from == to) {
            throw new IllegalArgumentException("a note goes to another guard");
        }
        noted++;
        now.passOn(from, to);
        now.weigh(book.everySentence());
        return Long.bitCount(now.cell(to, now.real));
    }

    public int ask(int guards, int sentence) throws IndexOutOfBoundsException, IllegalArgumentException {
        if (!book.holds(sentence)) {
            throw new IndexOutOfBoundsException("no such sentence");
        }
        if (!isSetOfGuards(guards)) {
            throw new IllegalArgumentException("no such set of guards");
        }
        asked++;
        int said = now.knowersOf(sentence) & guards;
        now.keepOnly(now.answeringAlike(guards, sentence));
        now.weigh(book.everySentence());
        return said;
    }

    public int flip(int fact) throws IndexOutOfBoundsException {
        if (!isFact(fact)) {
            throw new IndexOutOfBoundsException("no such fact");
        }
        switched++;
        now.turn(fact);
        now.weigh(book.everySentence());
        return now.real;
    }

    public int call() {
        refused++;
        return refused;
    }

    // ---- what is asked

    public boolean isTrue(int sentence, int world) throws IndexOutOfBoundsException {
        if (!book.holds(sentence) || !isWorld(world)) {
            throw new IndexOutOfBoundsException("no such sentence or world");
        }
        return has(now.worldsOf(sentence), world);
    }

    public long truth(int sentence) throws IndexOutOfBoundsException {
        if (!book.holds(sentence)) {
            throw new IndexOutOfBoundsException("no such sentence");
        }
        return now.worldsOf(sentence);
    }

    public int of(int sentence, int what) throws IndexOutOfBoundsException, IllegalArgumentException {
        if (!book.holds(sentence)) {
            throw new IndexOutOfBoundsException("no such sentence");
        }
        switch (what) {
            case 0: return book.kindOf(sentence);
            case 1: return book.firstOf(sentence);
            case 2: return book.secondOf(sentence);
            case 3: return Long.bitCount(now.worldsOf(sentence));
            case 4: return now.isTrueInReal(sentence) ? 1 : 0;
            case 5: return Integer.bitCount(now.knowersOf(sentence));
            case 6: return now.knowersOf(sentence);
            case 7: return isWithin(now.reachedFromReal(ALL_GUARDS), now.worldsOf(sentence)) ? 1 : 0;
            case 8: return now.fewestFor(sentence);
            case 9: return book.builtDeep(sentence);
            default: throw new IllegalArgumentException("no such question of a sentence");
        }
    }

    public long alike(int guard, int world) throws IndexOutOfBoundsException {
        if (!isGuard(guard) || !isWorld(world)) {
            throw new IndexOutOfBoundsException("no such guard or world");
        }
        return has(now.open, world) ? now.cell(guard, world) : 0L;
    }

    public int ofGuard(int guard, int what) throws IndexOutOfBoundsException, IllegalArgumentException {
        if (!isGuard(guard)) {
            throw new IndexOutOfBoundsException("no such guard");
        }
        switch (what) {
            case 0: return now.countCells(guard);
            case 1: return Long.bitCount(now.cell(guard, now.real));
            case 2: return now.factsSettledFor(guard);
            case 3: return now.countKnownBy(guard);
            case 4: return now.asSharpAs(guard);
            default: throw new IllegalArgumentException("no such question of a guard");
        }
    }

    public int depth(int guards, int sentence) throws IndexOutOfBoundsException, IllegalArgumentException {
        if (!book.holds(sentence)) {
            throw new IndexOutOfBoundsException("no such sentence");
        }
        if (!isSetOfGuards(guards)) {
            throw new IllegalArgumentException("no such set of guards");
        }
        return now.depthFor(guards, now.worldsOf(sentence));
    }

    public int night(int what) throws IllegalArgumentException {
        switch (what) {
            case 0: return now.real;
            case 1: return Long.bitCount(now.open);
            case 2: return book.count();
            case 3: return now.countTrueInReal();
            case 4: return now.countTrueInAllOf(now.reachedFromReal(ALL_GUARDS));
            case 5: return toldAloud;
            case 6: return whispered;
            case 7: return noted;
            case 8: return asked;
            case 9: return looked;
            case 10: return switched;
            case 11: return now.nearestToReal();
            case 12: return refused;
            default: throw new IllegalArgumentException("no such question of the night");
        }
    }

    public long possible() {
        return now.open;
    }

    public String text(int sentence) throws IndexOutOfBoundsException {
        if (!book.holds(sentence)) {
            throw new IndexOutOfBoundsException("no such sentence");
        }
        return book.signsOf(sentence);
    }

    public double wit(int guard) throws IndexOutOfBoundsException {
        if (!isGuard(guard)) {
            throw new IndexOutOfBoundsException("no such guard");
        }
        int all = book.count();
        if (all == 0) {
            return 0.0;
        }
        return (double) now.countKnownBy(guard) / (double) all;
    }

    // ---- what would be (nothing is changed)

    public int notes(int guard, int sentence) throws IndexOutOfBoundsException {
        if (!isGuard(guard) || !book.holds(sentence)) {
            throw new IndexOutOfBoundsException("no such guard or sentence");
        }
        if (now.knows(guard, sentence)) {
            return 0;
        }
        if (oneNoteDoes(now, once, guard, sentence)) {
            return 1;
        }
        for (int from = 0; from < GUARDS; from++) {
            for (int to = 0; to < GUARDS; to++) {
                if (from == to) {
                    continue;
                }
                once.copyFrom(now);
                // A first note that tells nothing new leaves just what one note can do.
                if (!once.passOn(from, to)) {
                    continue;
                }
                once.weigh(book.hangingOn(to, sentence));
                if (oneNoteDoes(once, twice, guard, sentence)) {
                    return 2;
                }
            }
        }
        return NONE;
    }

    public int rounds(int guards, int sentence) throws IndexOutOfBoundsException, IllegalArgumentException {
        if (!book.holds(sentence)) {
            throw new IndexOutOfBoundsException("no such sentence");
        }
        if (!isSetOfGuards(guards)) {
            throw new IllegalArgumentException("no such set of guards");
        }
        once.copyFrom(now);
        // Each ask that changes anything leaves a world out, so there are fewer of them than worlds.
        for (int round = 0; round < WORLDS; round++) {
            if ((once.knowersOf(sentence) & guards) != 0) {
                return round;
            }
            long before = once.open;
            once.keepOnly(once.answeringAlike(guards, sentence));
            if (once.open == before) {
                return NONE;
            }
            once.weigh(book.partsOf(sentence));
        }
        return NONE;
    }

    public int wouldTell(int sentence) throws IndexOutOfBoundsException {
        if (!book.holds(sentence)) {
            throw new IndexOutOfBoundsException("no such sentence");
        }
        if (!now.isTrueInReal(sentence)) {
            return NONE;
        }
        once.copyFrom(now);
        once.keepOnly(now.worldsOf(sentence));
        once.weigh(book.everySentence());
        return once.countTrueInReal();
    }

    public int bestNote(int guard, int sentence) throws IndexOutOfBoundsException {
        if (!isGuard(guard) || !book.holds(sentence)) {
            throw new IndexOutOfBoundsException("no such guard or sentence");
        }
        int best = NONE;
        int fewest = WORLDS + 1;
        for (int from = 0; from < GUARDS; from++) {
            if (from == guard) {
                continue;
            }
            once.copyFrom(now);
            once.passOn(from, guard);
            once.weigh(book.partsOf(sentence));
            int left = Long.bitCount(once.cell(guard, once.real));
            if (once.knows(guard, sentence) && left < fewest) {
                fewest = left;
                best = from;
            }
        }
        return best;
    }

    public boolean isSound() {
        if (!has(now.open, now.real)) {
            return false;
        }
        for (int s = 0; s < book.count(); s++) {
            if (!now.isSoundOf(s)) {
                return false;
            }
        }
        return true;
    }

    public long digest() {
        long d = 6121L;
        for (int what = 0; what <= 12; what++) {
            d = d * 31L + night(what);
        }
        d = d * 31L + possible();
        for (int guard = 0; guard < GUARDS; guard++) {
            for (int what = 0; what <= 4; what++) {
                d = d * 31L + ofGuard(guard, what);
            }
            d = d * 31L + alike(guard, now.real);
        }
        for (int s = 0; s < book.count(); s++) {
            d = digestOfSentence(d, s);
        }
        if (book.count() > 0) {
            d = d * 31L + notes(0, book.count() - 1);
            d = d * 31L + rounds(ALL_GUARDS, book.count() - 1);
        }
        d = d * 31L + (long) (64.0 * wit(0));
        return d * 31L + (isSound() ? 1L : 0L);
    }

    private long digestOfSentence(long before, int s) {
        long d = before * 31L + truth(s);
        for (int what = 0; what <= 9; what++) {
            d = d * 31L + of(s, what);
        }
        return d * 31L + depth(ALL_GUARDS, s);
    }

    private boolean oneNoteDoes(Scene start, Scene trial, int guard, int sentence) {
        for (int to = 0; to < GUARDS; to++) {
            // A last note to somebody who is neither asked nor spoken of cannot help.
            long hanging = book.hangingOn(to, sentence);
            if (to != guard && hanging == 0L) {
                continue;
            }
            for (int from = 0; from < GUARDS; from++) {
                if (from == to) {
                    continue;
                }
                trial.copyFrom(start);
                if (!trial.passOn(from, to)) {
                    continue;
                }
                trial.weigh(hanging);
                if (trial.knows(guard, sentence)) {
                    return true;
                }
            }
        }
        return false;
    }

    private static boolean isFact(int fact) {
        return fact >= 0 && fact < FACTS;
    }

    private static boolean isWorld(int world) {
        return world >= 0 && world < WORLDS;
    }

    private static boolean isGuard(int guard) {
        return guard >= 0 && guard < GUARDS;
    }

    private static boolean isSetOfGuards(int guards) {
        return guards >= 1 && guards <= ALL_GUARDS;
    }

    private static long worldsOfFact(int fact) {
        return isFact(fact) ? WORLDS_OF_FACT[fact] : 0L;
    }

    private static long setOf(int member) {
        return 1L << member;
    }

    private static boolean has(long set, int member) {
        return ((set >>> member) & 1L) != 0L;
    }

    private static boolean isWithin(long part, long whole) {
        return (part & ~whole) == 0L;
    }

    /** The smallest member of a set that is not empty. */
    private static int smallestOf(long set) {
        return Long.bitCount((set & -set) - 1L);
    }

    /** The same worlds with that fact the other way in each. */
    private static long turned(long worlds, int fact) {
        long so = worldsOfFact(fact);
        int by = 1 << fact;
        return ((worlds & so) >>> by) | ((worlds & ~so) << by);
    }

    /** The sentences as they were built; in which worlds they are true a Scene tells. */
    private static final class Book {
        private final int[] kinds = new int[MOST_SENTENCES];
        private final int[] firsts = new int[MOST_SENTENCES];
        private final int[] seconds = new int[MOST_SENTENCES];
        private final int[] depths = new int[MOST_SENTENCES];
        /** For each sentence the set of those that it is made of, itself too. */
        private final long[] parts = new long[MOST_SENTENCES];
        /** For each guard the set of the sentences that hang on what it knows. */
        private final long[] speaking = new long[GUARDS];
        private int size;

        int count() {
            return size;
        }

        boolean isFull() {
            return size >= MOST_SENTENCES;
        }

        boolean holds(int s) {
            return s >= 0 && s < size;
        }

        long everySentence() {
            return setOf(size) - 1L;
        }

        int kindOf(int s) {
            return holds(s) ? kinds[s] : NONE;
        }

        int firstOf(int s) {
            return holds(s) ? firsts[s] : NONE;
        }

        int secondOf(int s) {
            return holds(s) ? seconds[s] : NONE;
        }

        int builtDeep(int s) {
            return holds(s) ? depths[s] : NONE;
        }

        long partsOf(int s) {
            return holds(s) ? parts[s] : 0L;
        }

        /** Of what a sentence is made of, itself too, that which hangs on what the guard knows. */
        long hangingOn(int guard, int s) {
            return isGuard(guard) ? speaking[guard] & partsOf(s) : 0L;
        }

        boolean fits(int kind, int a, int b) {
            switch (kind) {
                case FACT: return isFact(a);
                case NOT: return holds(a);
                case AND:
                case OR: return holds(a) && holds(b);
                case KNOWS: return isGuard(a) && holds(b);
                case ALL_KNOW:
                case COMMON:
                case TOGETHER: return isSetOfGuards(a) && holds(b);
                default: return false;
            }
        }

        /** Of what fits, into a book that is not full. */
        int add(int kind, int a, int b) {
            if (isFull()) {
                return NONE;
            }
            int s = size;
            boolean firstIsSentence = kind == NOT || kind == AND || kind == OR;
            boolean secondIsSentence = kind >= AND;
            kinds[s] = kind;
            firsts[s] = a;
            seconds[s] = b;
            int deepest = Math.max(firstIsSentence ? builtDeep(a) : NONE, secondIsSentence ? builtDeep(b) : NONE);
            depths[s] = deepest + 1;
            parts[s] = setOf(s) | (firstIsSentence ? partsOf(a) : 0L) | (secondIsSentence ? partsOf(b) : 0L);
            for (int guard = 0; guard < GUARDS; guard++) {
                if (names(kind, a, guard) || (parts[s] & speaking[guard]) != 0L) {
                    speaking[guard] |= setOf(s);
                }
            }
            size++;
            return s;
        }

        private static boolean names(int kind, int a, int guard) {
            return kind == KNOWS ? a == guard : kind > KNOWS && has(a, guard);
        }

        String signsOf(int s) {
            if (builtDeep(s) > DEEPEST_TEXT) {
                return "...";
            }
            StringBuilder signs = new StringBuilder();
            write(this, s, signs, 0);
            return signs.toString();
        }

        /** The level is carried along as a bound: what is deeper than a text may be is not written. */
        private static void write(Book book, int s, StringBuilder signs, int level) {
            if (level > DEEPEST_TEXT || !book.holds(s)) {
                return;
            }
            int kind = book.kindOf(s);
            int a = book.firstOf(s);
            int b = book.secondOf(s);
            if (kind == FACT) {
                signs.append('p').append(a);
            } else if (kind == NOT) {
                signs.append('-');
                write(book, a, signs, level + 1);
            } else if (kind == AND || kind == OR) {
                signs.append('(');
                write(book, a, signs, level + 1);
                signs.append(kind == AND ? '&' : '|');
                write(book, b, signs, level + 1);
                signs.append(')');
            } else {
                signs.append(letterOf(kind)).append(a).append(':');
                write(book, b, signs, level + 1);
            }
        }

        private static char letterOf(int kind) {
            switch (kind) {
                case KNOWS: return 'K';
                case ALL_KNOW: return 'E';
                case COMMON: return 'C';
                default: return 'D';
            }
        }
    }

    /** A state of the night: what is real, what is possible, what the desks tell apart. */
    private static final class Scene {
        private final Book book;
        /** Behind each other for each guard and world: which worlds the guard cannot tell apart from it. */
        private final long[] desks = new long[GUARDS * WORLDS];
        /** For each sentence the possible worlds in which it is true. */
        private final long[] weighed = new long[MOST_SENTENCES];
        private long open;
        private int real;

        Scene(Book book) {
            this.book = book;
        }

        void restart(int world) {
            real = world;
            open = -1L;
            for (int place = 0; place < GUARDS * WORLDS; place++) {
                desks[place] = -1L;
            }
            weigh(book.everySentence());
        }

        void copyFrom(Scene other) {
            real = other.real;
            open = other.open;
            System.arraycopy(other.desks, 0, desks, 0, GUARDS * WORLDS);
            System.arraycopy(other.weighed, 0, weighed, 0, MOST_SENTENCES);
        }

        void keepOnly(long worlds) {
            open &= worlds;
        }

        void tellApart(int guard, long worlds) {
            if (!isGuard(guard)) {
                return;
            }
            for (int w = 0; w < WORLDS; w++) {
                desks[guard * WORLDS + w] &= has(worlds, w) ? worlds : ~worlds;
            }
        }

        /** Returns whether the note told anything that matters in the possible worlds. */
        boolean passOn(int from, int to) {
            if (!isGuard(from) || !isGuard(to)) {
                return false;
            }
            long lost = 0L;
            for (int w = 0; w < WORLDS; w++) {
                long before = desks[to * WORLDS + w];
                long behind = before & desks[from * WORLDS + w];
                desks[to * WORLDS + w] = behind;
                if (has(open, w)) {
                    lost |= before & ~behind;
                }
            }
            return (lost & open) != 0L;
        }

        void turn(int fact) {
            if (!isFact(fact)) {
                return;
            }
            int by = 1 << fact;
            real ^= by;
            open = turned(open, fact);
            for (int guard = 0; guard < GUARDS; guard++) {
                for (int w = 0; w < WORLDS; w++) {
                    if ((w & by) == 0) {
                        int dark = guard * WORLDS + w;
                        int lit = guard * WORLDS + (w | by);
                        long kept = turned(desks[dark], fact);
                        desks[dark] = turned(desks[lit], fact);
                        desks[lit] = kept;
                    }
                }
            }
        }

        /** Weighs these sentences anew, the smaller ones first, as the others are made of them. */
        void weigh(long sentences) {
            for (int s = 0; s < MOST_SENTENCES; s++) {
                if (!has(sentences, s)) {
                    continue;
                }
                int a = book.firstOf(s);
                int b = book.secondOf(s);
                long worlds = 0L;
                switch (book.kindOf(s)) {
                    case FACT: worlds = worldsOfFact(a); break;
                    case NOT: worlds = ~worldsOf(a); break;
                    case AND: worlds = worldsOf(a) & worldsOf(b); break;
                    case OR: worlds = worldsOf(a) | worldsOf(b); break;
                    case KNOWS: worlds = knownToAll(1 << a, worldsOf(b)); break;
                    case ALL_KNOW: worlds = knownToAll(a, worldsOf(b)); break;
                    case COMMON: worlds = ~reached(a, ~worldsOf(b)); break;
                    case TOGETHER: worlds = knownTogether(a, worldsOf(b)); break;
                    default: break;
                }
                weighed[s] = worlds & open;
            }
        }

        long worldsOf(int s) {
            return book.holds(s) ? weighed[s] : 0L;
        }

        boolean isTrueInReal(int s) {
            return has(worldsOf(s), real);
        }

        /** The possible worlds that the guard cannot tell apart from that one. Asked most of all, so it calls nothing. */
        long cell(int guard, int world) {
            boolean there = guard >= 0 && guard < GUARDS && world >= 0 && world < WORLDS;
            return there ? desks[guard * WORLDS + world] & open : 0L;
        }

        /** The possible worlds that look alike to that one for each of the set. */
        private long cellTogether(int guards, int world) {
            long worlds = open;
            for (int guard = 0; guard < GUARDS; guard++) {
                if (has(guards, guard)) {
                    worlds &= cell(guard, world);
                }
            }
            return worlds;
        }

        /** The worlds that look alike to any of these for one of the guards. */
        private long spread(int guards, long worlds) {
            long out = 0L;
            for (int guard = 0; guard < GUARDS; guard++) {
                long left = has(guards, guard) ? worlds & open : 0L;
                for (int step = 0; step < WORLDS && left != 0L; step++) {
                    long cell = cell(guard, smallestOf(left));
                    out |= cell;
                    left &= ~cell;
                }
            }
            return out;
        }

        /** The worlds to which one comes from these by any number of ways. */
        private long reached(int guards, long worlds) {
            long all = worlds & open;
            long fresh = all;
            for (int step = 0; step < WORLDS && fresh != 0L; step++) {
                fresh = spread(guards, fresh) & ~all;
                all |= fresh;
            }
            return all;
        }

        long reachedFromReal(int guards) {
            return reached(guards, setOf(real));
        }

        private long knownToAll(int guards, long worlds) {
            return open & ~spread(guards, ~worlds);
        }

        private long knownTogether(int guards, long worlds) {
            long out = 0L;
            long left = open;
            for (int step = 0; step < WORLDS && left != 0L; step++) {
                long cell = cellTogether(guards, smallestOf(left));
                if (isWithin(cell, worlds)) {
                    out |= cell;
                }
                left &= ~cell;
            }
            return out;
        }

        boolean knows(int guard, int s) {
            return isWithin(cell(guard, real), worldsOf(s));
        }

        /** The set of the guards that know it in the real world. */
        int knowersOf(int s) {
            int knowers = 0;
            for (int guard = 0; guard < GUARDS; guard++) {
                if (knows(guard, s)) {
                    knowers |= 1 << guard;
                }
            }
            return knowers;
        }

        /** The worlds in which each of the set would say of the sentence what it says in the real one. */
        long answeringAlike(int guards, int s) {
            long worlds = open;
            for (int guard = 0; guard < GUARDS; guard++) {
                if (has(guards, guard)) {
                    long saying = knownToAll(1 << guard, worldsOf(s));
                    worlds &= has(saying, real) ? saying : ~saying;
                }
            }
            return worlds;
        }

        int fewestFor(int s) {
            int best = NONE;
            int fewest = GUARDS + 1;
            for (int guards = 1; guards <= ALL_GUARDS; guards++) {
                int size = Integer.bitCount(guards);
                if (size < fewest && isWithin(cellTogether(guards, real), worldsOf(s))) {
                    fewest = size;
                    best = guards;
                }
            }
            return best;
        }

        int depthFor(int guards, long worlds) {
            if (!has(worlds, real)) {
                return NONE;
            }
            long so = worlds;
            // Each step that is not the last leaves a world out, so there are fewer of them than worlds.
            for (int steps = 0; steps < WORLDS; steps++) {
                long known = knownToAll(guards, so);
                if (!has(known, real)) {
                    return steps;
                }
                if (known == so) {
                    return ENDLESS;
                }
                so = known;
            }
            return ENDLESS;
        }

        int countTrueInReal() {
            return countTrueInAllOf(setOf(real));
        }

        int countTrueInAllOf(long worlds) {
            int count = 0;
            for (int s = 0; s < book.count(); s++) {
                if (isWithin(worlds, worldsOf(s))) {
                    count++;
                }
            }
            return count;
        }

        int countKnownBy(int guard) {
            return countTrueInAllOf(cell(guard, real));
        }

        int countCells(int guard) {
            int count = 0;
            long left = open;
            for (int step = 0; step < WORLDS && left != 0L; step++) {
                left &= ~cell(guard, smallestOf(left));
                count++;
            }
            return count;
        }

        int factsSettledFor(int guard) {
            long worlds = cell(guard, real);
            int facts = 0;
            for (int fact = 0; fact < FACTS; fact++) {
                long so = worldsOfFact(fact);
                if (isWithin(worlds, so) || isWithin(worlds, ~so)) {
                    facts |= 1 << fact;
                }
            }
            return facts;
        }

        /** The set of the guards that tell apart all possible worlds that this one does. */
        int asSharpAs(int guard) {
            int guards = 0;
            for (int other = 0; other < GUARDS; other++) {
                if (isAsSharpAs(other, guard)) {
                    guards |= 1 << other;
                }
            }
            return guards;
        }

        private boolean isAsSharpAs(int other, int guard) {
            for (int w = 0; w < WORLDS; w++) {
                if (has(open, w) && !isWithin(cell(other, w), cell(guard, w))) {
                    return false;
                }
            }
            return true;
        }

        int nearestToReal() {
            int best = 0;
            for (int guard = 1; guard < GUARDS; guard++) {
                if (Long.bitCount(cell(guard, real)) < Long.bitCount(cell(best, real))) {
                    best = guard;
                }
            }
            return best;
        }

        boolean isSoundOf(int s) {
            int knowers = knowersOf(s);
            if (knowers != 0 && !isTrueInReal(s)) {
                return false;
            }
            int kind = book.kindOf(s);
            boolean sharesPart = (kind == ALL_KNOW || kind == COMMON) && isTrueInReal(s);
            if (sharesPart && !isWithin(book.firstOf(s), knowersOf(book.secondOf(s)))) {
                return false;
            }
            for (int guards = 1; guards <= ALL_GUARDS; guards++) {
                if ((guards & knowers) != 0 && !isWithin(cellTogether(guards, real), worldsOf(s))) {
                    return false;
                }
            }
            return true;
        }
    }
}
