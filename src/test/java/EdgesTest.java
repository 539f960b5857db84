import java.math.BigInteger;

/**
 * The cases on an edge that the document names, sentence by sentence (its words stand in «..»); the answers
 * that are due were found by hand. What lies beside the ranges of arguments is RangesTest's.
 */
final class EdgesTest {
    private static final Class<IllegalArgumentException> ARGUMENT = IllegalArgumentException.class;
    private static final Class<IllegalStateException> STATE = IllegalStateException.class;
    private static final Class<IndexOutOfBoundsException> INDEX = IndexOutOfBoundsException.class;

    private static final int NONE = -1;
    private static final int ENDLESS = 99;
    private static final int EMPTY = Nights.EMPTY;
    private static final int FULL = Nights.FULL;
    private static final int ONLY_63 = Nights.ONLY_63;
    private static final long P0 = Nights.P0;
    private static final long P1 = Nights.P1;
    private static final long P5 = Nights.P5;
    private static final long ALL_WORLDS = Nights.ALL_WORLDS;
    private static final long WORLD_63 = Long.MIN_VALUE;

    private static final Checks CHECKS = new Checks("EdgesTest");

    public static void main(String[] args) {
        theFirstState();
        realIsAlwaysPossible();
        partsDoNotCross();
        itselfIfPossible();
        noSentence();
        oneSentence();
        fortySentences();
        theFortieth();
        trueInNoOthers();
        setsOfOneGuard();
        setsOfAllGuards();
        allButEachGuard();
        noWayAtAll();
        anyNumberOfWays();
        smallerThanItsOwn();
        theStateOfNow();
        lookOnceMore();
        aloudOfAllWorlds();
        aloudOfTheWorld63();
        whisperOfNothing();
        noteOfNothingAndOfAll();
        askOneAndAll();
        askWhatAllOrNoneKnow();
        switchBack();
        switchWhatEachSees();
        switchTheWorld63();
        depthNone();
        depthZero();
        depthEndless();
        depthOfOneGuard();
        depthOfTheLongestWay();
        fewOfOneAndOfAll();
        fewNone();
        fewSmallestSet();
        notesNoneToTwo();
        notesPassedOnByEach();
        roundsNone();
        roundsZeroAndOne();
        refusedCounts();
        begunAnew();
        countsEver();
        beginWithEachWorld();
        theWorld63AsTheSign();
        emptyAndFullTruth();
        ofASentenceAtItsEdges();
        asItWasGiven();
        ofAGuardAtItsEdges();
        theGuardWithTheFewest();
        textSixDeep();
        textSevenDeep();
        textOfTheEdges();
        witAtItsEdges();
        wouldTellAtItsEdges();
        bestNoteAtItsEdges();
        isSoundAtTheEdges();
        digestAtTheEdges();
        theLastCall();
        CHECKS.ended();
    }

    private static void same(String what, Object got, Object want) {
        CHECKS.same(what, got, want);
    }

    private static void refused(String what, Class<? extends Exception> want, Checks.Call call) {
        CHECKS.refused(what, want, call);
    }

    private static boolean has(long set, int member) {
        return (set >>> member & 1) != 0;
    }

    // ---- 1. Worlds

    /** «0 at first», «all 64 at first», «at first no two» */
    private static void theFirstState() {
        NightdeskRota x = new NightdeskRota();
        same("REAL at first", x.night(0), 0);
        same("POSSIBLE at first", x.possible(), ALL_WORLDS);
        same("how many at first", x.night(1), 64);
        for (int guard = 0; guard < 6; guard++) {
            for (int world = 0; world < 64; world++) {
                same("alike(" + guard + ", " + world + ") at first", x.alike(guard, world), ALL_WORLDS);
            }
        }
        for (int what = 2; what <= 12; what++) {
            same("night(" + what + ") at first", x.night(what), 0);
        }
        int p0 = x.say(0, 0, 0);
        int not = x.say(1, p0, 0);
        same("p0 at first", x.of(p0, 4), 0);
        same("-p0 at first", x.of(not, 4), 1);
    }

    /** «REAL is always POSSIBLE» */
    private static void realIsAlwaysPossible() {
        for (int real = 0; real < 64; real++) {
            NightdeskRota x = Nights.withHats(real);
            x.ask(7, 0);
            same("REAL behind ask, " + real, has(x.possible(), x.night(0)), true);
            x.aloud(x.of(7, 4) == 1 ? 7 : x.say(1, 7, 0));
            same("REAL behind aloud, " + real, has(x.possible(), x.night(0)), true);
            x.flip(real % 6);
            same("REAL behind flip, " + real, has(x.possible(), x.night(0)), true);
            same("it is the one of begin but for that FACT", x.night(0), real ^ 1 << real % 6);
            x.ask(63, 6);
            same("REAL behind one more ask, " + real, has(x.possible(), x.night(0)), true);
        }
    }

    /** «what one cannot tell apart from a third one, and that not from a second one, one cannot tell apart from that» */
    private static void partsDoNotCross() {
        NightdeskRota x = Nights.withHats(7);
        x.whisper(0, 6);
        x.whisper(1, 7);
        x.whisper(3, 6);
        x.whisper(4, x.say(4, 3, 0));
        x.note(0, 1);
        x.flip(1);
        x.aloud(6);
        for (int guard = 0; guard < 6; guard++) {
            long[] alike = new long[64];
            for (int world = 0; world < 64; world++) {
                alike[world] = x.alike(guard, world);
            }
            for (int v = 0; v < 64; v++) {
                for (int w = 0; w < 64; w++) {
                    if (has(alike[v], w)) {
                        same("parts of guard " + guard + " at " + v + " and " + w, alike[w], alike[v]);
                    }
                }
            }
        }
    }

    /** «(itself, if it is POSSIBLE)», «(0, if it is not POSSIBLE)» */
    private static void itselfIfPossible() {
        NightdeskRota x = Nights.withFacts(63);
        for (int fact = 0; fact < 6; fact++) {
            x.look(5, fact);
        }
        x.aloud(5);
        for (int world = 0; world < 64; world++) {
            same("who sees all, at " + world, x.alike(5, world), P5 & 1L << world);
            same("who sees nothing, at " + world, x.alike(0, world), world < 32 ? 0L : P5);
        }
    }

    // ---- 2. Sentences

    /** No SENTENCE at all: «(0.0 without SENTENCES)», and nothing of theirs to be asked. */
    private static void noSentence() {
        NightdeskRota x = new NightdeskRota();
        same("begin without sentences", x.begin(63), 0);
        for (int what = 2; what <= 4; what++) {
            same("night(" + what + ") without sentences", x.night(what), 0);
        }
        for (int guard = 0; guard < 6; guard++) {
            same("wit(" + guard + ") without sentences", x.wit(guard), 0.0);
            same("ofGuard(" + guard + ", 3) without sentences", x.ofGuard(guard, 3), 0);
        }
        same("isSound without sentences", x.isSound(), true);
        refused("truth(0) without sentences", INDEX, () -> x.truth(0));
        refused("say(1, 0, 0) without sentences", ARGUMENT, () -> x.say(1, 0, 0));
        refused("say(4, 0, 0) without sentences", ARGUMENT, () -> x.say(4, 0, 0));
    }

    /** «numbered from 0» */
    private static void oneSentence() {
        NightdeskRota x = new NightdeskRota();
        same("the first number", x.say(0, 5, 0), 0);
        same("how many", x.night(2), 1);
        same("begin where it is TRUE", x.begin(32), 1);
        same("begin where it is not", x.begin(31), 0);
        x.begin(32);
        same("wit of who does not know it", x.wit(5), 0.0);
        x.look(5, 5);
        same("wit of who knows it", x.wit(5), 1.0);
        refused("truth(1) with one sentence", INDEX, () -> x.truth(1));
        refused("say(1, 1, 0): itself", ARGUMENT, () -> x.say(1, 1, 0));
        same("the second number", x.say(1, 0, 0), 1);
    }

    /** «at most 40», «Throws IllegalStateException if there are 40» */
    private static void fortySentences() {
        NightdeskRota x = Nights.withForty(63);
        same("how many", x.night(2), 40);
        refused("the 41st", STATE, () -> x.say(0, 0, 0));
        refused("the 41st of the last two", STATE, () -> x.say(2, 39, 38));
        same("how many behind the 41st", x.night(2), 40);
        same("all are TRUE in 63", x.begin(63), 40);
        same("none is TRUE in 0", x.begin(0), 0);
        x.begin(63);
        same("those that are TRUE", x.night(3), 40);
        same("those that are COMMON", x.night(4), 0);
        same("what would be TRUE", x.wouldTell(10), 40);
        same("the last one, p4 or p5 or both of p0 and p1, told", x.aloud(39), 52);
        same("the 40th in the WORLD 63", x.isTrue(39, 63), true);
        same("the 11th told", x.aloud(10), 1);
        same("those that are COMMON then", x.night(4), 40);
        for (int guard = 0; guard < 6; guard++) {
            same("what guard " + guard + " KNOWS", x.ofGuard(guard, 3), 40);
            same("wit of guard " + guard, x.wit(guard), 1.0);
        }
        same("the last one asked", x.ask(63, 39), 63);
        same("notes of the last one", x.notes(0, 39), 0);
        same("rounds of the last one", x.rounds(63, 39), 0);
        same("how deep the last one is built", x.of(39, 9), 34);
        same("text of the last one", x.text(39), "...");
    }

    /** What would be is found out for the 40th one, too. */
    private static void theFortieth() {
        NightdeskRota x = Nights.withFacts(32);
        while (x.night(2) < 39) {
            x.say(2, x.night(2) - 1, 5);
        }
        same("its number", x.say(0, 5, 0), 39);
        x.look(1, 5);
        same("rounds of who does not see it", x.rounds(2, 39), 0);
        same("rounds of the others", x.rounds(61, 39), NONE);
        same("notes", x.notes(4, 39), 1);
        same("bestNote", x.bestNote(4, 39), 1);
        same("wouldTell", x.wouldTell(39), 35);
        same("how many KNOW it", x.of(39, 5), 1);
        same("ask", x.ask(2, 39), 2);
        same("what all heard", x.truth(39), P5);
    }

    /** «(and in no others)» than POSSIBLE ones: of each KIND, also of what all know and of what is so everywhere. */
    private static void trueInNoOthers() {
        NightdeskRota x = Nights.withEmptyAndFull(1);
        int[] built = new int[8];
        built[1] = x.say(1, 1, 0);
        built[2] = x.say(2, FULL, FULL);
        built[3] = x.say(3, FULL, FULL);
        for (int kind = 4; kind <= 7; kind++) {
            built[kind] = x.say(kind, 5, FULL);
        }
        same("-p1 in all worlds", x.truth(built[1]), ~P1);
        for (int kind = 2; kind <= 7; kind++) {
            same("KIND " + kind + " in all worlds", x.truth(built[kind]), ALL_WORLDS);
        }
        x.aloud(0);
        same("-p1 in no others", x.truth(built[1]), ~P1 & P0);
        for (int kind = 2; kind <= 7; kind++) {
            same("KIND " + kind + " in no others", x.truth(built[kind]), P0);
            same("isTrue of KIND " + kind + " in no others", x.isTrue(built[kind], 0), false);
        }
        same("-EMPTY in no others", x.truth(x.say(1, EMPTY, 0)), P0);
        same("a FACT in no others", x.truth(5), P5 & P0);
    }

    /** «sets of GUARDS are 1 to 63»: a set of one GUARD, the smallest one is 1, is that GUARD alone. */
    private static void setsOfOneGuard() {
        NightdeskRota x = Nights.withHats(3);
        for (int guard = 0; guard < 6; guard++) {
            int known = x.say(4, guard, 6);
            for (int kind = 5; kind <= 7; kind++) {
                same("KIND " + kind + " of guard " + guard, x.truth(x.say(kind, 1 << guard, 6)), x.truth(known));
            }
        }
        same("guard 0 KNOWS it where fact 1 is so", x.truth(8), P1);
        same("guard 5 nowhere", x.truth(28), 0L);
    }

    /** The set 63: one GUARD who does not know is enough, and one who adds the last FACT. */
    private static void setsOfAllGuards() {
        NightdeskRota x = Nights.withEmptyAndFull(63);
        int allButOne = x.say(5, 31, 0);
        int all = x.say(5, 63, 0);
        int common = x.say(6, 63, 0);
        int togetherButOne = x.say(7, 31, ONLY_63);
        int together = x.say(7, 63, ONLY_63);
        for (int guard = 0; guard < 5; guard++) {
            x.look(guard, 0);
        }
        same("E31:p0", x.truth(allButOne), P0);
        same("E63:p0 without guard 5", x.truth(all), 0L);
        same("C63:p0 without guard 5", x.truth(common), 0L);
        x.look(5, 0);
        same("E63:p0 with guard 5", x.truth(all), P0);
        same("C63:p0 with guard 5", x.truth(common), P0);
        for (int guard = 1; guard < 6; guard++) {
            x.look(guard, guard);
        }
        same("D31 of all facts", x.truth(togetherButOne), 0L);
        same("D63 of all facts", x.truth(together), WORLD_63);
    }

    /** One GUARD who does not know is enough, whichever: it is not COMMON to all, and not deep. */
    private static void allButEachGuard() {
        for (int left = 0; left < 6; left++) {
            NightdeskRota x = Nights.withFacts(1);
            int all = x.say(5, 63, 0);
            int others = x.say(5, 63 - (1 << left), 0);
            for (int guard = 0; guard < 6; guard++) {
                if (guard != left) {
                    x.look(guard, 0);
                }
            }
            same("not COMMON without guard " + left, x.of(0, 7), 0);
            same("none is COMMON without guard " + left, x.night(4), 0);
            same("DEPTH without guard " + left, x.depth(63, 0), 0);
            same("DEPTH of the others", x.depth(63 - (1 << left), 0), ENDLESS);
            same("ALL without guard " + left, x.truth(all), 0L);
            same("ALL of the others", x.truth(others), P0);
            same("who KNOWS it", x.of(0, 6), 63 - (1 << left));
            same("what guard " + left + " KNOWS", x.ofGuard(left, 3), 0);
            same("who tells apart what guard " + left + " does", x.ofGuard(left, 4), 63);
            same("POSSIBLE behind the ask of all", x.ask(63, 0), 63 - (1 << left));
            same("COMMON behind it", x.of(0, 7), 1);
            same("p0, E63:p0, and E of the others are COMMON", x.night(4), 3);
        }
    }

    /** «by any number of ways (0 too)» */
    private static void noWayAtAll() {
        NightdeskRota x = Nights.withEmptyAndFull(0);
        int common = x.say(6, 63, 0);
        for (int guard = 0; guard < 6; guard++) {
            for (int fact = 0; fact < 6; fact++) {
                x.look(guard, fact);
            }
        }
        same("where there are 0 ways to others", x.truth(common), P0);
        same("it is not COMMON where it is not so", x.isTrue(common, 0), false);
        same("COMMON nowhere, of none", x.truth(x.say(6, 63, EMPTY)), 0L);
        same("KNOWN nowhere, of none", x.truth(x.say(4, 5, EMPTY)), 0L);
        same("TOGETHER nowhere, of none", x.truth(x.say(7, 63, EMPTY)), 0L);
        same("nor in REAL", x.of(0, 7), 0);
        x.begin(1);
        same("where one comes to all", x.truth(common), 0L);
    }

    /** «by any number of ways»: 63 of them, each needed. */
    private static void anyNumberOfWays() {
        NightdeskRota x = Nights.withRing(63);
        x.whisper(1, Nights.ANY_FACT);
        int common = x.say(6, 3, Nights.ANY_FACT);
        same("the end that is 63 ways off", x.isTrue(common, 63), false);
        same("nowhere COMMON", x.truth(common), 0L);
        x.whisper(1, x.say(2, 1, 2));
        same("the row is cut between 5 and 6", x.truth(common), ~63L);
        x.begin(63);
        same("begun anew, where one comes to all", x.truth(common), 0L);
        x.aloud(Nights.ANY_FACT);
        same("without the end", x.truth(common), ~1L);
    }

    /** «numbers smaller than its own» */
    private static void smallerThanItsOwn() {
        NightdeskRota x = Nights.withFacts(0);
        for (int kind = 1; kind <= 7; kind++) {
            int k = kind;
            int own = x.night(2);
            int a = k == 1 ? own - 1 : 1;
            refused("KIND " + k + " of its own number", ARGUMENT, () -> x.say(k, k == 1 ? own : 1, own));
            same("KIND " + k + " of the last one", x.say(k, a, own - 1), own);
        }
    }

    /** «What is asked of a SENTENCE is asked of the state of now.» */
    private static void theStateOfNow() {
        NightdeskRota x = Nights.withFacts(1);
        int known = x.say(4, 0, 0);
        int knownToo = x.say(4, 1, 0);
        int unknown = x.say(1, known, 0);
        same("ahead of the look", x.truth(known), 0L);
        same("not known ahead of the look", x.truth(unknown), ALL_WORLDS);
        x.look(0, 0);
        same("behind the look", x.truth(known), P0);
        same("not known behind the look", x.truth(unknown), ~P0);
        x.note(0, 1);
        same("behind the note", x.truth(knownToo), P0);
        x.flip(0);
        same("behind the switch", x.of(known, 4), 0);
        same("where they became", x.truth(known), P0);
        x.flip(0);
        x.ask(1, 0);
        same("behind the ask", x.truth(known), P0);
        same("not known behind the ask", x.truth(unknown), 0L);
        x.begin(1);
        same("behind begin", x.truth(known), 0L);
        x.whisper(1, 0);
        same("behind the whisper", x.truth(knownToo), P0);
        x.aloud(0);
        same("behind what was told aloud", x.truth(known), P0);
    }

    // ---- 3. What is told

    /** To LOOK where one has looked tells nothing more, but it is counted. */
    private static void lookOnceMore() {
        NightdeskRota x = Nights.withFacts(63);
        same("look(5, 5)", x.look(5, 5), 32);
        same("look(5, 5) once more", x.look(5, 5), 32);
        same("LOOKS", x.night(9), 2);
        same("what it sees", x.alike(5, 63), P5);
        same("what it sees of the others", x.alike(5, 0), ~P5);
        x.aloud(5);
        same("look at what all know", x.look(0, 5), 32);
    }

    /** A SENTENCE that is TRUE everywhere leaves no WORLD out. */
    private static void aloudOfAllWorlds() {
        NightdeskRota x = Nights.withEmptyAndFull(63);
        same("aloud of all", x.aloud(FULL), 64);
        same("POSSIBLE", x.possible(), ALL_WORLDS);
        same("TOLD ALOUD", x.night(5), 1);
        refused("aloud of none", STATE, () -> x.aloud(EMPTY));
        same("TOLD ALOUD behind a refused one", x.night(5), 1);
        same("POSSIBLE behind a refused one", x.possible(), ALL_WORLDS);
    }

    /** One WORLD alone is left, the last one: all is COMMON that is TRUE there. */
    private static void aloudOfTheWorld63() {
        NightdeskRota x = Nights.withEmptyAndFull(63);
        same("aloud of the world 63", x.aloud(ONLY_63), 1);
        same("POSSIBLE, the sign alone", x.possible(), WORLD_63);
        same("all that is TRUE is COMMON", x.night(4), x.night(3));
        same("that are all but -p0 and EMPTY", x.night(4), 12);
        for (int guard = 0; guard < 6; guard++) {
            same("alike(" + guard + ", 63)", x.alike(guard, 63), WORLD_63);
            same("alike(" + guard + ", 62)", x.alike(guard, 62), 0L);
            same("parts of guard " + guard, x.ofGuard(guard, 0), 1);
            same("facts of guard " + guard, x.ofGuard(guard, 2), 63);
        }
        same("aloud once more", x.aloud(ONLY_63), 1);
    }

    /** «WORLDS in which it was TRUE apart from those in which it was not»: with one of both empty, none. */
    private static void whisperOfNothing() {
        NightdeskRota x = Nights.withEmptyAndFull(5);
        same("whisper of what is TRUE everywhere", x.whisper(0, FULL), true);
        same("whisper of what is TRUE nowhere", x.whisper(0, EMPTY), false);
        same("nothing told apart", x.alike(0, 5), ALL_WORLDS);
        same("nothing told apart at 63", x.alike(0, 63), ALL_WORLDS);
        same("WHISPERED", x.night(6), 2);
        same("whisper of one world", x.whisper(0, ONLY_63), false);
        same("63 alike", x.alike(0, 5), ~WORLD_63);
        same("and one", x.alike(0, 63), WORLD_63);
    }

    /** A NOTE of one who sees nothing, and of one who sees all. */
    private static void noteOfNothingAndOfAll() {
        NightdeskRota x = Nights.withFacts(63);
        for (int fact = 0; fact < 6; fact++) {
            x.look(5, fact);
        }
        same("of nothing to nothing", x.note(0, 1), 64);
        same("of nothing to all", x.note(0, 5), 1);
        same("of all to nothing", x.note(5, 0), 1);
        same("what the second one sees", x.alike(0, 63), WORLD_63);
        same("what the others see", x.alike(1, 63), ALL_WORLDS);
        same("NOTES", x.night(7), 3);
    }

    /** «each of them says»: who is not of the set says nothing. */
    private static void askOneAndAll() {
        NightdeskRota x = Nights.withFacts(1);
        x.look(5, 0);
        same("all but guard 5", x.ask(31, 0), 0);
        same("nothing was heard", x.possible(), ALL_WORLDS);
        same("guard 5 alone", x.ask(32, 0), 32);
        same("all heard it", x.possible(), P0);
        same("guard 0 alone", x.ask(1, 0), 1);
        same("all", x.ask(63, 0), 63);
        same("ASKS", x.night(8), 4);
        x.begin(0);
        x.look(5, 0);
        same("guard 5 says that it does not", x.ask(63, 0), 0);
        same("all heard that, too", x.possible(), ~P0);
    }

    /** «would have said the same»: in all WORLDS, if all or none know it everywhere. */
    private static void askWhatAllOrNoneKnow() {
        NightdeskRota x = Nights.withEmptyAndFull(0);
        x.look(2, 2);
        same("what is TRUE nowhere", x.ask(63, EMPTY), 0);
        same("POSSIBLE stays", x.possible(), ALL_WORLDS);
        same("what is TRUE everywhere", x.ask(63, FULL), 63);
        same("POSSIBLE stays behind that, too", x.possible(), ALL_WORLDS);
        same("of a set", x.ask(34, FULL), 34);
    }

    /** «it becomes the other way»: twice is as it was. */
    private static void switchBack() {
        NightdeskRota x = Nights.withEmptyAndFull(63);
        x.whisper(3, ONLY_63);
        for (int fact = 0; fact < 6; fact++) {
            int by = 1 << fact;
            same("flip(" + fact + ")", x.flip(fact), 63 - by);
            same("POSSIBLE stays full", x.possible(), ALL_WORLDS);
            same("what 63 became, for guard 3", x.alike(3, 63 - by), 1L << 63 - by);
            same("the others", x.alike(3, 63), ~(1L << 63 - by));
            same("who saw nothing", x.alike(0, 63), ALL_WORLDS);
            same("flip(" + fact + ") back", x.flip(fact), 63);
            same("what is 63 again", x.alike(3, 63), WORLD_63);
        }
        same("SWITCHES", x.night(10), 12);
    }

    /** «who could tell two WORLDS apart can tell apart those that they became»: each GUARD. */
    private static void switchWhatEachSees() {
        for (int guard = 0; guard < 6; guard++) {
            NightdeskRota x = Nights.withEmptyAndFull(63);
            x.whisper(guard, ONLY_63);
            x.flip(guard);
            int became = 63 - (1 << guard);
            for (int other = 0; other < 6; other++) {
                long due = other == guard ? 1L << became : ALL_WORLDS;
                same("alike(" + other + ", " + became + ") behind flip", x.alike(other, became), due);
                same("alike(" + other + ", 63) behind flip", x.alike(other, 63), other == guard ? ~due : due);
            }
            same("what is TRUE in 63 is not so any more", x.of(ONLY_63, 4), 0);
            same("guard " + guard + " cannot KNOW that now", x.of(ONLY_63, 6), 0);
        }
    }

    /** The WORLD 63 is the sign: it becomes another one, and another one becomes it. */
    private static void switchTheWorld63() {
        int real = 63;
        NightdeskRota x = Nights.withEmptyAndFull(real);
        x.aloud(ONLY_63);
        for (int fact : new int[] {5, 0, 5, 1, 2, 3, 4, 0, 1, 2, 3, 4}) {
            real ^= 1 << fact;
            same("flip(" + fact + ")", x.flip(fact), real);
            same("POSSIBLE is REAL alone", x.possible(), 1L << real);
            same("alike is REAL alone", x.alike(5, real), 1L << real);
        }
        same("the world 63 again", x.possible(), WORLD_63);
    }

    // ---- 4. How deep, how few

    /** «NONE, if it is not TRUE» */
    private static void depthNone() {
        NightdeskRota x = Nights.withEmptyAndFull(1);
        for (int guards : new int[] {1, 32, 63}) {
            same("what is not so", x.depth(guards, 1), NONE);
            same("what is TRUE nowhere", x.depth(guards, EMPTY), NONE);
        }
        for (int guard = 0; guard < 6; guard++) {
            x.look(guard, 1);
        }
        same("what all know not to be so", x.depth(63, 1), NONE);
    }

    /** «0, if it is TRUE, but not all know it» */
    private static void depthZero() {
        NightdeskRota x = Nights.withFacts(1);
        for (int guard = 0; guard < 5; guard++) {
            x.look(guard, 0);
        }
        same("guard 5 does not know it", x.depth(63, 0), 0);
        same("guard 5 alone", x.depth(32, 0), 0);
        same("the others do", x.depth(31, 0), ENDLESS);
        same("guard 0 alone", x.depth(1, 0), ENDLESS);
    }

    /** «99, if that never ends» */
    private static void depthEndless() {
        NightdeskRota x = Nights.withEmptyAndFull(63);
        same("what is TRUE everywhere", x.depth(63, FULL), ENDLESS);
        same("not what nobody knows", x.depth(63, ONLY_63), 0);
        x.aloud(ONLY_63);
        same("what was told", x.depth(63, ONLY_63), ENDLESS);
        same("what was told, for one", x.depth(1, 0), ENDLESS);
    }

    /** What one KNOWS it KNOWS that it KNOWS: for a set of one it is NONE, 0 or 99. */
    private static void depthOfOneGuard() {
        for (int real = 0; real < 8; real++) {
            NightdeskRota x = Nights.withHats(real);
            for (int guard = 0; guard < 6; guard++) {
                for (int s = 0; s < 8; s++) {
                    int due = x.of(s, 4) == 0 ? NONE : has(x.of(s, 6), guard) ? ENDLESS : 0;
                    same("depth(" + (1 << guard) + ", " + s + ") in " + real, x.depth(1 << guard, s), due);
                }
            }
        }
    }

    /** The row of 64 worlds ends where it is not TRUE; from its other end that is the deepest that ends. */
    private static void depthOfTheLongestWay() {
        NightdeskRota x = Nights.withRing(63);
        x.whisper(1, Nights.ANY_FACT);
        same("63 ways off", x.depth(3, Nights.ANY_FACT), 62);
        NightdeskRota near = Nights.withRing(1);
        near.whisper(1, Nights.ANY_FACT);
        same("one way off", near.depth(3, Nights.ANY_FACT), 0);
        same("where it is not TRUE", Nights.withRing(0).depth(3, Nights.ANY_FACT), NONE);
    }

    /** FEW: the smallest set 1, the GUARD 5 alone 32, all of them 63. */
    private static void fewOfOneAndOfAll() {
        NightdeskRota x = Nights.withEmptyAndFull(63);
        same("what all know", x.of(FULL, 8), 1);
        for (int guard = 0; guard < 6; guard++) {
            x.look(guard, guard);
        }
        same("guard 5 alone", x.of(5, 8), 32);
        same("guard 0 alone", x.of(0, 8), 1);
        same("five of them", x.of(ONLY_63 - 1, 8), 31);
        same("all of them", x.of(ONLY_63, 8), 63);
    }

    /** «NONE, if not even all would» */
    private static void fewNone() {
        NightdeskRota x = Nights.withEmptyAndFull(63);
        for (int guard = 0; guard < 5; guard++) {
            x.look(guard, guard);
        }
        same("nobody sees the last fact", x.of(ONLY_63, 8), NONE);
        same("what is not so", x.of(6, 8), NONE);
        same("what is TRUE nowhere", x.of(EMPTY, 8), NONE);
        same("five facts", x.of(ONLY_63 - 1, 8), 31);
    }

    /** «of several the smallest set»: as a number, behind «the fewest of them» */
    private static void fewSmallestSet() {
        NightdeskRota x = Nights.withFacts(3);
        int both = x.say(2, 0, 1);
        x.look(0, 0);
        x.look(1, 1);
        x.look(2, 0);
        x.look(4, 1);
        same("0 and 1 ahead of 2 and 1, 0 and 4, 2 and 4", x.of(both, 8), 3);
        same("0 ahead of 2", x.of(0, 8), 1);
        same("1 ahead of 4", x.of(1, 8), 2);
        x.note(0, 5);
        x.note(1, 5);
        same("5 alone ahead of the smaller set of two", x.of(both, 8), 32);
        x.note(2, 4);
        same("4 ahead of 5", x.of(both, 8), 16);
    }

    /** «(0 to 2)», «NONE, if 2 are not enough» */
    private static void notesNoneToTwo() {
        NightdeskRota x = Nights.withEmptyAndFull(63);
        for (int fact = 0; fact < 4; fact++) {
            x.look(fact, fact);
        }
        int four = ONLY_63 - 2;
        for (int guard = 0; guard < 6; guard++) {
            same("what all know, guard " + guard, x.notes(guard, FULL), 0);
            same("what is TRUE nowhere, guard " + guard, x.notes(guard, EMPTY), NONE);
            same("p0, guard " + guard, x.notes(guard, 0), guard == 0 ? 0 : 1);
            same("p0&p1, guard " + guard, x.notes(guard, 9), guard < 2 ? 1 : 2);
            same("three facts, guard " + guard, x.notes(guard, 10), guard < 3 ? 2 : NONE);
            same("four facts, guard " + guard, x.notes(guard, four), NONE);
        }
        x.note(0, 1);
        x.note(2, 3);
        same("four facts behind two notes", x.notes(1, four), 1);
        same("four facts for guard 5", x.notes(5, four), 2);
        same("NOTES that were", x.night(7), 2);
    }

    /** «(from any GUARD to any other one), one behind the other»: a first to a second one, that one to a third. */
    private static void notesPassedOnByEach() {
        for (int first = 0; first < 6; first++) {
            for (int second = 0; second < 6; second++) {
                if (first == second) {
                    continue;
                }
                NightdeskRota x = Nights.withFacts(3);
                x.look(first, 0);
                x.look(second, 1);
                int known = x.say(4, second, 0);
                int both = x.say(2, known, 1);
                for (int third = 0; third < 6; third++) {
                    String who = first + " to " + second + " to " + third;
                    same("notes of " + who, x.notes(third, both), third == second ? 1 : 2);
                    same("a NOTE to that one, " + who, x.notes(third, known), third == first || third == second ? 1 : 2);
                }
            }
        }
    }

    /** «NONE, if that never comes (POSSIBLE does not change any more)» */
    private static void roundsNone() {
        NightdeskRota x = Nights.withEmptyAndFull(0);
        x.look(0, 0);
        same("what is TRUE nowhere", x.rounds(63, EMPTY), NONE);
        same("what nobody sees", x.rounds(63, 1), NONE);
        same("behind an ask that leaves worlds out", x.rounds(1, 0), NONE);
        same("that ask", x.ask(1, 0), 0);
        same("what it leaves", x.possible(), ~P0);
        same("and behind it", x.rounds(1, 0), NONE);
    }

    /** «0, if one does now», «at least one of them KNOWS it in REAL ahead of the ASK» */
    private static void roundsZeroAndOne() {
        NightdeskRota x = Nights.withFacts(3);
        x.look(0, 1);
        x.look(1, 0);
        int any = x.say(3, 0, 1);
        int s = x.say(3, x.say(4, 0, 0), x.say(4, 1, 1));
        x.aloud(any);
        same("one does now: guard 0 of all", x.rounds(63, 1), 0);
        same("who does is of the set", x.rounds(1, 1), 0);
        same("who does is not of the set", x.rounds(62, 1), NONE);
        same("behind one ask", x.rounds(3, s), 1);
        same("that ask", x.ask(3, s), 0);
        same("now one does", x.rounds(3, s), 0);
        same("ASKS that were", x.night(8), 1);
    }

    /** «REFUSED (counted)»; a call that throws is not REFUSED in this sense. */
    private static void refusedCounts() {
        NightdeskRota x = new NightdeskRota();
        refused("begin(64)", ARGUMENT, () -> x.begin(64));
        same("none yet", x.night(12), 0);
        same("the first", x.call(), 1);
        refused("look(6, 0)", INDEX, () -> x.look(6, 0));
        same("the second", x.call(), 2);
        x.begin(0);
        same("the third, ever", x.call(), 3);
        same("how many", x.night(12), 3);
    }

    // ---- begin behind all else

    private static NightdeskRota withAllElse(boolean changed) {
        NightdeskRota x = Nights.withHats(7);
        x.say(1, 7, 0);
        x.say(4, 0, 0);
        x.say(5, 7, 7);
        x.say(6, 63, 6);
        x.say(7, 63, 1);
        if (changed) {
            x.whisper(3, 9);
            x.note(0, 4);
            x.aloud(7);
            x.ask(7, 9);
            x.flip(0);
            x.flip(5);
            x.call();
            x.notes(5, 12);
            x.rounds(7, 9);
            x.wouldTell(7);
        }
        return x;
    }

    /** «REAL is that WORLD, all are POSSIBLE, no DESK tells anything apart (SENTENCES stay)» */
    private static void begunAnew() {
        NightdeskRota x = withAllElse(true);
        NightdeskRota due = withAllElse(false);
        same("it was not so", x.possible() != ALL_WORLDS && x.alike(0, 0) != ALL_WORLDS, true);
        same("how many are TRUE", x.begin(38), due.begin(38));
        same("REAL", x.night(0), 38);
        same("POSSIBLE", x.possible(), ALL_WORLDS);
        for (int guard = 0; guard < 6; guard++) {
            for (int world = 0; world < 64; world += 9) {
                same("alike(" + guard + ", " + world + ")", x.alike(guard, world), ALL_WORLDS);
            }
        }
        same("SENTENCES", x.night(2), 13);
        for (int s = 0; s < 13; s++) {
            same("text(" + s + ")", x.text(s), due.text(s));
            same("truth(" + s + ")", x.truth(s), due.truth(s));
            for (int what = 0; what <= 9; what++) {
                same("of(" + s + ", " + what + ")", x.of(s, what), due.of(s, what));
            }
            same("depth(7, " + s + ")", x.depth(7, s), due.depth(7, s));
            same("notes(0, " + s + ")", x.notes(0, s), due.notes(0, s));
            same("rounds(7, " + s + ")", x.rounds(7, s), due.rounds(7, s));
            same("wouldTell(" + s + ")", x.wouldTell(s), due.wouldTell(s));
            same("bestNote(0, " + s + ")", x.bestNote(0, s), due.bestNote(0, s));
        }
        same("the next number", x.say(0, 0, 0), 13);
    }

    /** «(5 to 10 ever)», «how many were REFUSED ever» */
    private static void countsEver() {
        NightdeskRota x = withAllElse(true);
        int[] due = {1, 1, 1, 1, 6, 2};
        for (int often = 0; often < 3; often++) {
            for (int what = 5; what <= 10; what++) {
                same("night(" + what + ") behind begin " + often, x.night(what), due[what - 5]);
            }
            same("REFUSED behind begin " + often, x.night(12), 1);
            x.begin(often * 31);
        }
        x.look(0, 0);
        same("LOOKS go on", x.night(9), 7);
        refused("begin(-1)", ARGUMENT, () -> x.begin(-1));
        same("LOOKS behind a refused begin", x.night(9), 7);
        same("REAL behind a refused begin", x.night(0), 62);
    }

    private static void beginWithEachWorld() {
        NightdeskRota x = Nights.withEmptyAndFull(0);
        for (int real = 0; real < 64; real++) {
            int ands = 0;
            while (ands < 5 && (real & (4 << ands) - 1) == (4 << ands) - 1) {
                ands++;
            }
            // The facts that are so, p0 or -p0 beside it, FULL, and the ands of the first facts.
            int due = Integer.bitCount(real) + (real % 2 == 0 ? 1 : 0) + 1 + ands;
            same("begin(" + real + ")", x.begin(real), due);
            same("REAL", x.night(0), real);
        }
    }

    // ---- what is asked

    /** «(the WORLD 63 as the sign)» */
    private static void theWorld63AsTheSign() {
        NightdeskRota x = Nights.withEmptyAndFull(63);
        same("truth of what is TRUE in 63 alone", x.truth(ONLY_63), WORLD_63);
        same("truth of what is TRUE in all others", x.truth(x.say(1, ONLY_63, 0)), Long.MAX_VALUE);
        same("in 63", x.isTrue(ONLY_63, 63), true);
        same("in 62", x.isTrue(ONLY_63, 62), false);
        same("in 0", x.isTrue(ONLY_63, 0), false);
        same("in how many", x.of(ONLY_63, 3), 1);
        same("in REAL", x.of(ONLY_63, 4), 1);
        x.whisper(2, ONLY_63);
        same("alike(2, 63)", x.alike(2, 63), WORLD_63);
        same("alike(2, 62)", x.alike(2, 62), Long.MAX_VALUE);
        x.aloud(ONLY_63);
        same("possible()", x.possible(), WORLD_63);
    }

    /** A set that is empty is 0, one that is full is -1. */
    private static void emptyAndFullTruth() {
        NightdeskRota x = Nights.withEmptyAndFull(0);
        same("truth of EMPTY", x.truth(EMPTY), 0L);
        same("truth of FULL", x.truth(FULL), -1L);
        same("EMPTY in how many", x.of(EMPTY, 3), 0);
        same("FULL in how many", x.of(FULL, 3), 64);
        for (int world : new int[] {0, 31, 32, 63}) {
            same("EMPTY in " + world, x.isTrue(EMPTY, world), false);
            same("FULL in " + world, x.isTrue(FULL, world), true);
        }
    }

    private static void ofASentenceAtItsEdges() {
        NightdeskRota x = Nights.withEmptyAndFull(62);
        same("KIND 0", x.of(5, 0), 0);
        same("KIND 7", x.of(x.say(7, 63, 0), 0), 7);
        same("EMPTY in REAL", x.of(EMPTY, 4), 0);
        same("FULL in REAL", x.of(FULL, 4), 1);
        same("how many KNOW EMPTY", x.of(EMPTY, 5), 0);
        same("how many KNOW FULL", x.of(FULL, 5), 6);
        same("who KNOWS EMPTY", x.of(EMPTY, 6), 0);
        same("who KNOWS FULL", x.of(FULL, 6), 63);
        x.look(5, 5);
        same("how many KNOW p5", x.of(5, 5), 1);
        same("who KNOWS p5", x.of(5, 6), 32);
        same("EMPTY is not COMMON", x.of(EMPTY, 7), 0);
        same("FULL is COMMON", x.of(FULL, 7), 1);
        for (int guard = 0; guard < 5; guard++) {
            same("p5 is not COMMON", x.of(5, 7), 0);
            x.look(guard, 5);
        }
        same("p5 is COMMON when the last one has looked", x.of(5, 7), 1);
        same("how deep a FACT is built", x.of(5, 9), 0);
        same("of a FACT and one that is 4 deep", x.of(x.say(2, 5, ONLY_63 - 1), 9), 5);
        same("of one that is 4 deep and a FACT", x.of(x.say(3, ONLY_63 - 1, 5), 9), 5);
        same("a set is no SENTENCE", x.of(x.say(5, ONLY_63, 0), 9), 1);
        same("a GUARD is no SENTENCE", x.of(x.say(4, 5, 0), 9), 1);
    }

    /** «1 a, 2 b (as it was given)», «b (of KIND 0 and 1 it does not matter)» */
    private static void asItWasGiven() {
        NightdeskRota x = new NightdeskRota();
        int[] given = {Integer.MIN_VALUE, -1, 0, 40, Integer.MAX_VALUE};
        for (int n = 0; n < given.length; n++) {
            int fact = x.say(0, n, given[n]);
            int not = x.say(1, fact, given[n]);
            same("b of a FACT", x.of(fact, 2), given[n]);
            same("b of a NOT", x.of(not, 2), given[n]);
            same("a of a FACT", x.of(fact, 1), n);
            same("a of a NOT", x.of(not, 1), fact);
            same("how deep that NOT is built", x.of(not, 9), 1);
            same("what that NOT is", x.truth(not), ~x.truth(fact));
        }
        int together = x.say(7, 63, 0);
        same("a set", x.of(together, 1), 63);
        same("its b", x.of(together, 2), 0);
    }

    private static void ofAGuardAtItsEdges() {
        NightdeskRota x = Nights.withForty(63);
        for (int fact = 0; fact < 6; fact++) {
            x.look(5, fact);
        }
        same("one part", x.ofGuard(0, 0), 1);
        same("64 parts", x.ofGuard(5, 0), 64);
        same("64 alike", x.ofGuard(0, 1), 64);
        same("one alike", x.ofGuard(5, 1), 1);
        same("no FACT", x.ofGuard(0, 2), 0);
        same("all FACTS", x.ofGuard(5, 2), 63);
        same("no SENTENCE", x.ofGuard(0, 3), 0);
        same("all SENTENCES", x.ofGuard(5, 3), 40);
        same("all tell apart what guard 0 does: nothing", x.ofGuard(0, 4), 63);
        same("itself alone", x.ofGuard(5, 4), 32);
        x.note(5, 0);
        same("itself and guard 0", x.ofGuard(5, 4), 33);
        x.begin(0);
        x.look(5, 0);
        same("that a FACT is not so is known, too", x.ofGuard(5, 2), 1);
        same("but no SENTENCE", x.ofGuard(5, 3), 0);
        x.begin(63);
        x.look(5, 0);
        x.aloud(0);
        same("where there is nothing to tell apart any more", x.ofGuard(5, 4), 63);
        same("one part of what is POSSIBLE", x.ofGuard(5, 0), 1);
    }

    /** «the GUARD with the fewest WORLDS that LOOK ALIKE to REAL»: of several the smallest number. */
    private static void theGuardWithTheFewest() {
        NightdeskRota x = Nights.withFacts(0);
        same("of all as good", x.night(11), 0);
        x.look(5, 0);
        same("the last one alone", x.night(11), 5);
        x.look(4, 3);
        same("4 ahead of 5", x.night(11), 4);
        x.look(0, 1);
        same("0 ahead of all", x.night(11), 0);
        x.look(3, 0);
        x.look(3, 1);
        same("the fewest ahead of the smallest number", x.night(11), 3);
    }

    /** p0 (0), -p0 (1) .. up to 8 times not (8): as deep as its number. */
    private static NightdeskRota withNots() {
        NightdeskRota x = new NightdeskRota();
        x.say(0, 0, 0);
        for (int deep = 1; deep <= 8; deep++) {
            x.say(1, deep - 1, 0);
        }
        return x;
    }

    /** Just as deep as 6: written out, of each KIND and on both sides. */
    private static void textSixDeep() {
        NightdeskRota x = withNots();
        String[] due = {
            "(-p0&-----p0)", "(-p0|-----p0)", "K1:-----p0", "E1:-----p0", "C1:-----p0", "D1:-----p0"
        };
        same("-", x.text(6), "------p0");
        for (int kind = 2; kind <= 7; kind++) {
            int s = x.say(kind, 1, 5);
            same("6 deep", x.of(s, 9), 6);
            same("KIND " + kind + ", 6 deep", x.text(s), due[kind - 2]);
        }
        same("6 deep by its first one", x.text(x.say(2, 5, 0)), "(-----p0&p0)");
        same("6 deep by its first one, or", x.text(x.say(3, 5, 0)), "(-----p0|p0)");
        same("5 deep", x.text(5), "-----p0");
        same("0 deep", x.text(0), "p0");
        same("two that are 5 deep", x.text(x.say(2, 5, 5)), "(-----p0&-----p0)");
    }

    /** «of SENTENCES that are deeper than 6 "..." in place of all that» */
    private static void textSevenDeep() {
        NightdeskRota x = withNots();
        same("-", x.text(7), "...");
        same("8 deep", x.text(8), "...");
        for (int kind = 2; kind <= 7; kind++) {
            int s = x.say(kind, 1, 6);
            same("7 deep", x.of(s, 9), 7);
            same("KIND " + kind + ", 7 deep", x.text(s), "...");
        }
        same("7 deep by its first one", x.text(x.say(2, 6, 0)), "...");
        same("7 deep by its first one, or", x.text(x.say(3, 6, 0)), "...");
        same("a number as big as 6 is not a depth", x.text(x.say(4, 5, 0)), "K5:p0");
        same("nor is a set", x.text(x.say(6, 7, 0)), "C7:p0");
    }

    private static void textOfTheEdges() {
        NightdeskRota x = Nights.withFacts(0);
        same("the first FACT", x.text(0), "p0");
        same("the last FACT", x.text(5), "p5");
        same("the first GUARD", x.text(x.say(4, 0, 5)), "K0:p5");
        same("the last GUARD", x.text(x.say(4, 5, 0)), "K5:p0");
        same("the smallest set, ALL", x.text(x.say(5, 1, 0)), "E1:p0");
        same("the biggest set, ALL", x.text(x.say(5, 63, 0)), "E63:p0");
        same("the smallest set, COMMON", x.text(x.say(6, 1, 0)), "C1:p0");
        same("the biggest set, COMMON", x.text(x.say(6, 63, 0)), "C63:p0");
        same("the smallest set, TOGETHER", x.text(x.say(7, 1, 0)), "D1:p0");
        same("the biggest set, TOGETHER", x.text(x.say(7, 63, 0)), "D63:p0");
        same("the same one twice", x.text(x.say(2, 5, 5)), "(p5&p5)");
    }

    /** «as a double (0.0 without SENTENCES)» */
    private static void witAtItsEdges() {
        NightdeskRota x = new NightdeskRota();
        for (int guard = 0; guard < 6; guard++) {
            same("without sentences", x.wit(guard), 0.0);
        }
        NightdeskRota y = Nights.withForty(63);
        same("none of 40", y.wit(5), 0.0);
        y.look(5, 4);
        int known = y.ofGuard(5, 3);
        same("more than none of 40", known > 0 && known < 40, true);
        same("some of 40", y.wit(5), known / 40.0);
        y.aloud(10);
        same("all of 40", y.wit(5), 1.0);
        NightdeskRota z = Nights.withFacts(1);
        z.look(0, 0);
        same("one of six", z.wit(0), 1.0 / 6.0);
        same("none of six", z.wit(1), 0.0);
    }

    // ---- what would be

    /** «NONE, if it is not TRUE there» */
    private static void wouldTellAtItsEdges() {
        NightdeskRota x = Nights.withEmptyAndFull(63);
        same("what is TRUE nowhere", x.wouldTell(EMPTY), NONE);
        same("what is not TRUE there", x.wouldTell(6), NONE);
        same("what is TRUE everywhere changes nothing", x.wouldTell(FULL), x.night(3));
        int all = x.say(5, 63, ONLY_63);
        same("it is not TRUE yet", x.wouldTell(all), NONE);
        same("with what all would know then", x.wouldTell(ONLY_63), 13);
        same("without it", x.night(3), 12);
        int unknown = x.say(1, all, 0);
        same("what would not be TRUE any more", x.wouldTell(ONLY_63), 13);
        same("that was TRUE", x.of(unknown, 4), 1);
        NightdeskRota one = new NightdeskRota();
        one.say(0, 0, 0);
        same("one that is not TRUE", one.wouldTell(0), NONE);
        one.begin(1);
        same("one that is TRUE", one.wouldTell(0), 1);
        same("TOLD ALOUD", one.night(5), 0);
    }

    /** «NONE, if no NOTE would do»; of several as good the smallest number. */
    private static void bestNoteAtItsEdges() {
        NightdeskRota x = Nights.withEmptyAndFull(63);
        for (int guard = 0; guard < 6; guard++) {
            same("what nobody sees, guard " + guard, x.bestNote(guard, 0), NONE);
            same("what is TRUE nowhere, guard " + guard, x.bestNote(guard, EMPTY), NONE);
            same("what all know: the smallest other one", x.bestNote(guard, FULL), guard == 0 ? 1 : 0);
        }
        x.look(5, 0);
        same("the last one", x.bestNote(0, 0), 5);
        same("not itself, though it KNOWS it", x.bestNote(5, 0), 0);
        x.look(4, 0);
        same("of two as good the smaller one", x.bestNote(0, 0), 4);
        x.look(5, 1);
        same("the fewest worlds ahead of the smaller one", x.bestNote(0, 0), 5);
        x.look(0, 1);
        same("as many with what it sees itself", x.bestNote(0, 0), 4);
        x.look(3, 2);
        x.look(3, 3);
        same("not the fewest worlds without that SENTENCE", x.bestNote(0, 0), 4);
        same("NOTES", x.night(7), 0);
    }

    private static void isSoundAtTheEdges() {
        same("without sentences", new NightdeskRota().isSound(), true);
        same("with 40", Nights.withForty(63).isSound(), true);
        NightdeskRota x = withAllElse(true);
        same("behind all else", x.isSound(), true);
        x.begin(63);
        same("begun anew", x.isSound(), true);
        NightdeskRota y = Nights.withEmptyAndFull(63);
        for (int kind = 5; kind <= 7; kind++) {
            y.say(kind, 1, ONLY_63);
            y.say(kind, 63, ONLY_63);
            y.say(kind, 63, EMPTY);
        }
        same("with sets", y.isSound(), true);
        y.aloud(ONLY_63);
        same("with one world", y.isSound(), true);
    }

    private static BigInteger next(BigInteger d, long v) {
        return d.multiply(BigInteger.valueOf(31)).add(BigInteger.valueOf(v));
    }

    /** The checksum as a number without an end: its last 64 bits are due. */
    private static BigInteger digestOf(NightdeskRota x) {
        BigInteger d = BigInteger.valueOf(6121);
        for (int what = 0; what <= 12; what++) {
            d = next(d, x.night(what));
        }
        d = next(d, x.possible());
        for (int guard = 0; guard < 6; guard++) {
            for (int what = 0; what <= 4; what++) {
                d = next(d, x.ofGuard(guard, what));
            }
            d = next(d, x.alike(guard, x.night(0)));
        }
        int n = x.night(2);
        for (int s = 0; s < n; s++) {
            d = next(d, x.truth(s));
            for (int what = 0; what <= 9; what++) {
                d = next(d, x.of(s, what));
            }
            d = next(d, x.depth(63, s));
        }
        if (n > 0) {
            d = next(next(d, x.notes(0, n - 1)), x.rounds(63, n - 1));
        }
        return next(next(d, (long) Math.floor(64 * x.wit(0))), x.isSound() ? 1 : 0);
    }

    private static void digestIs(String what, NightdeskRota x) {
        BigInteger due = digestOf(x);
        same(what + " is longer than 64 bits", due.bitLength() > 64, true);
        same(what, x.digest(), due.longValue());
        same(what + " once more", x.digest(), due.longValue());
    }

    /** «which wraps around as a 64-bit integer», «(both only with SENTENCES)», «(that product cut to a whole number)» */
    private static void digestAtTheEdges() {
        NightdeskRota none = new NightdeskRota();
        digestIs("digest without sentences", none);
        none.begin(63);
        none.look(0, 5);
        digestIs("digest without sentences, at 63", none);
        none.say(0, 4, 0);
        digestIs("digest with one sentence", none);
        NightdeskRota six = Nights.withFacts(3);
        six.look(0, 0);
        same("64 times wit() is no whole number", six.wit(0), 1.0 / 6.0);
        digestIs("digest with a wit() that is cut", six);
        six.look(0, 1);
        six.look(0, 2);
        same("64 times wit() lies between 21 and 22", six.wit(0), 2.0 / 6.0);
        digestIs("digest with a wit() that is cut once more", six);
        digestIs("digest with forty", Nights.withForty(63));
        for (int alone = 0; alone < 6; alone++) {
            NightdeskRota x = Nights.withFacts(33);
            for (int guard = 0; guard < 6; guard++) {
                x.look(guard, guard == alone ? 5 : 0);
            }
            digestIs("digest where guard " + alone + " alone KNOWS the last one, and not the first one", x);
        }
        digestIs("digest of what is begun", withAllElse(false));
        digestIs("digest behind all else", withAllElse(true));
        NightdeskRota only = Nights.withEmptyAndFull(63);
        only.aloud(ONLY_63);
        digestIs("digest of the world 63 alone", only);
    }

    /** «at most 512 calls»: the last one of them is answered like the first one. */
    private static void theLastCall() {
        NightdeskRota x = new NightdeskRota();
        for (int n = 1; n <= 512; n++) {
            same("call " + n, x.call(), n);
        }
        NightdeskRota y = Nights.withFacts(0);
        for (int n = 0; n < 500; n++) {
            y.flip(n % 6);
        }
        same("SWITCHES behind 507 calls", y.night(10), 500);
    }
}
