/** Each promise of the document by itself; the answers that are due were found by hand. */
final class PromiseTest {
    private static final Class<IllegalArgumentException> ARGUMENT = IllegalArgumentException.class;
    private static final Class<IllegalStateException> STATE = IllegalStateException.class;
    private static final Class<IndexOutOfBoundsException> INDEX = IndexOutOfBoundsException.class;

    private static final long P0 = Nights.P0;
    private static final long P1 = Nights.P1;
    private static final long P2 = Nights.P2;
    private static final long P5 = Nights.P5;

    private static final Checks CHECKS = new Checks("PromiseTest");

    public static void main(String[] args) {
        aNewObject();
        begin();
        say();
        sayWithFortySentences();
        look();
        aloud();
        whisper();
        note();
        ask();
        flip();
        call();
        isTrue();
        truth();
        truthOfEachKind();
        whoSeesAll();
        of();
        few();
        alike();
        ofGuard();
        depth();
        depthOnALongWay();
        night();
        possible();
        text();
        wit();
        notes();
        notesOfWhatOthersKnow();
        rounds();
        roundsOnALongWay();
        wouldTell();
        bestNote();
        isSound();
        digest();
        whatWouldBeChangesNothing();
        whatThrowsChangesNothing();
        CHECKS.ended();
    }

    private static void same(String what, Object got, Object want) {
        CHECKS.same(what, got, want);
    }

    private static void refused(String what, Class<? extends Exception> want, Checks.Call call) {
        CHECKS.refused(what, want, call);
    }

    private static void aNewObject() {
        NightdeskRota x = new NightdeskRota();
        same("possible() of a new object", x.possible(), -1L);
        for (int what = 0; what <= 12; what++) {
            same("night(" + what + ") of a new object", x.night(what), what == 1 ? 64 : 0);
        }
        for (int guard = 0; guard < 6; guard++) {
            same("parts of a new object", x.ofGuard(guard, 0), 1);
            same("alike(.., 63) of a new object", x.alike(guard, 63), -1L);
            same("desks of a new object", x.ofGuard(guard, 4), 63);
        }
    }

    private static void begin() {
        NightdeskRota x = Nights.withFacts(0);
        x.say(1, 0, 0);
        same("begin(0): -p0 is true", x.begin(0), 1);
        same("begin(63): all facts are so", x.begin(63), 6);
        same("begin(6)", x.begin(6), 3);
        x.look(0, 0);
        x.whisper(1, 1);
        x.note(0, 2);
        x.aloud(2);
        x.ask(1, 0);
        x.flip(3);
        x.call();
        same("begin(5) anew", x.begin(5), 2);
        same("REAL", x.night(0), 5);
        same("possible() after begin", x.possible(), -1L);
        for (int guard = 0; guard < 6; guard++) {
            same("alike after begin", x.alike(guard, 5), -1L);
        }
        same("the sentences stay", x.night(2), 7);
        for (int what = 5; what <= 10; what++) {
            same("night(" + what + ") counts ever", x.night(what), 1);
        }
        same("REFUSED counts ever", x.night(12), 1);
        refused("begin(-1)", ARGUMENT, () -> x.begin(-1));
        refused("begin(64)", ARGUMENT, () -> x.begin(64));
        same("REAL after a wrong begin", x.night(0), 5);
    }

    private static void say() {
        NightdeskRota x = new NightdeskRota();
        refused("-: no sentence yet", ARGUMENT, () -> x.say(1, 0, 0));
        refused("p-1", ARGUMENT, () -> x.say(0, -1, 0));
        refused("p6", ARGUMENT, () -> x.say(0, 6, 0));
        refused("kind -1", ARGUMENT, () -> x.say(-1, 0, 0));
        same("p5, whatever b", x.say(0, 5, 99), 0);
        same("p0, whatever b", x.say(0, 0, -99), 1);
        refused("kind 8", ARGUMENT, () -> x.say(8, 1, 0));
        same("-, whatever b", x.say(1, 1, Integer.MIN_VALUE), 2);
        refused("- of itself", ARGUMENT, () -> x.say(1, 3, 0));
        refused("- of -1", ARGUMENT, () -> x.say(1, -1, 0));
        for (int kind = 2; kind <= 7; kind++) {
            int k = kind;
            refused("kind " + k + " of b itself", ARGUMENT, () -> x.say(k, 1, 3));
            refused("kind " + k + " of b -1", ARGUMENT, () -> x.say(k, 1, -1));
            refused("kind " + k + " of a -1", ARGUMENT, () -> x.say(k, -1, 0));
        }
        for (int kind = 2; kind <= 3; kind++) {
            int k = kind;
            refused("kind " + k + " of a itself", ARGUMENT, () -> x.say(k, 3, 0));
        }
        refused("guard 6", ARGUMENT, () -> x.say(4, 6, 0));
        for (int kind = 5; kind <= 7; kind++) {
            int k = kind;
            refused("kind " + k + " of the set 0", ARGUMENT, () -> x.say(k, 0, 0));
            refused("kind " + k + " of the set 64", ARGUMENT, () -> x.say(k, 64, 0));
        }
        same("a wrong one builds nothing", x.night(2), 3);
        same("&", x.say(2, 2, 2), 3);
        same("|", x.say(3, 0, 3), 4);
        same("K", x.say(4, 0, 4), 5);
        same("K of guard 5", x.say(4, 5, 0), 6);
        same("E", x.say(5, 1, 6), 7);
        same("C", x.say(6, 63, 7), 8);
        same("D", x.say(7, 63, 8), 9);
        same("the same once more", x.say(7, 63, 8), 10);
    }

    private static void sayWithFortySentences() {
        NightdeskRota x = new NightdeskRota();
        for (int n = 0; n < 40; n++) {
            same("sentence " + n, n == 0 ? x.say(0, 0, 0) : x.say(1, n - 1, 0), n);
        }
        refused("the 41st", STATE, () -> x.say(0, 0, 0));
        refused("the 41st, and a wrong one", ARGUMENT, () -> x.say(0, 6, 0));
        refused("the 41st, and b a wrong one", ARGUMENT, () -> x.say(4, 0, 40));
        same("sentences", x.night(2), 40);
        same("the last one: 39 times not", x.truth(39), ~P0);
        same("the last but one", x.truth(38), P0);
        same("how deep it is built", x.of(39, 9), 39);
        same("begin with 40", x.begin(1), 20);
    }

    private static void look() {
        NightdeskRota x = Nights.withFacts(5);
        same("look(0, 0)", x.look(0, 0), 32);
        same("look(0, 1)", x.look(0, 1), 16);
        same("look(0, 1) again", x.look(0, 1), 16);
        same("look(5, 5)", x.look(5, 5), 32);
        same("what guard 0 cannot tell apart", x.alike(0, 5), P0 & ~P1);
        same("it can so from other worlds, too", x.alike(0, 2), ~P0 & P1);
        same("the others see nothing", x.alike(1, 5), -1L);
        x.aloud(2);
        same("look counts POSSIBLE worlds", x.look(0, 0), 8);
        refused("look(-1, 0)", INDEX, () -> x.look(-1, 0));
        refused("look(6, 0)", INDEX, () -> x.look(6, 0));
        refused("look(0, -1)", INDEX, () -> x.look(0, -1));
        refused("look(0, 6)", INDEX, () -> x.look(0, 6));
        same("LOOKS", x.night(9), 5);
        int known = x.say(4, 4, 1);
        same("guard 4 does not know of fact 1", x.truth(known), 0L);
        x.look(4, 1);
        same("where it knows, behind the look", x.truth(known), P1 & P2);
    }

    private static void aloud() {
        NightdeskRota x = Nights.withFacts(3);
        same("aloud(p0)", x.aloud(0), 32);
        same("what is possible", x.possible(), P0);
        int known = x.say(4, 0, 1);
        int not = x.say(1, known, 0);
        int unheard = x.say(2, 1, not);
        same("p1 and guard 0 does not know it", x.aloud(unheard), 16);
        same("what is possible: where it WAS true", x.possible(), P0 & P1);
        same("now it is true nowhere", x.truth(unheard), 0L);
        refused("what is not true any more", STATE, () -> x.aloud(unheard));
        refused("what is not true", STATE, () -> x.aloud(2));
        refused("aloud(9)", INDEX, () -> x.aloud(9));
        refused("aloud(-1)", INDEX, () -> x.aloud(-1));
        same("how often it was told aloud", x.night(5), 2);
        same("what is possible after wrong ones", x.possible(), P0 & P1);
    }

    private static void whisper() {
        NightdeskRota x = Nights.withFacts(1);
        int both = x.say(2, 0, 1);
        same("whisper what is true", x.whisper(0, 0), true);
        same("whisper what is not", x.whisper(1, both), false);
        same("guard 0 tells apart", x.alike(0, 1), P0);
        same("guard 1 tells apart, too", x.alike(1, 1), ~(P0 & P1));
        same("and in the other worlds", x.alike(1, 3), P0 & P1);
        same("guard 2 does not", x.alike(2, 1), -1L);
        same("nothing was told aloud", x.possible(), -1L);
        refused("whisper(-1, 0)", INDEX, () -> x.whisper(-1, 0));
        refused("whisper(6, 0)", INDEX, () -> x.whisper(6, 0));
        refused("whisper(0, -1)", INDEX, () -> x.whisper(0, -1));
        refused("whisper(0, 7)", INDEX, () -> x.whisper(0, 7));
        same("how often it was whispered", x.night(6), 2);
        int known = x.say(4, 5, both);
        x.whisper(5, both);
        same("where guard 5 knows, behind the whisper", x.truth(known), P0 & P1);
    }

    private static void note() {
        NightdeskRota x = Nights.withFacts(0);
        x.look(0, 0);
        x.look(1, 1);
        same("note(0, 1)", x.note(0, 1), 16);
        same("the second one adds it to its own", x.alike(1, 0), ~P0 & ~P1);
        same("the first one learns nothing", x.alike(0, 0), ~P0);
        same("note(1, 5) passes on both", x.note(1, 5), 16);
        x.look(1, 2);
        same("what comes behind a note is not in it", x.alike(5, 0), ~P0 & ~P1);
        refused("note(3, 3)", ARGUMENT, () -> x.note(3, 3));
        refused("note(-1, 0)", INDEX, () -> x.note(-1, 0));
        refused("note(6, 0)", INDEX, () -> x.note(6, 0));
        refused("note(0, -1)", INDEX, () -> x.note(0, -1));
        refused("note(0, 6)", INDEX, () -> x.note(0, 6));
        refused("note(6, 6): the first named exception", INDEX, () -> x.note(6, 6));
        same("NOTES", x.night(7), 2);
        x.begin(1);
        int known = x.say(4, 3, 0);
        x.look(0, 0);
        x.note(0, 3);
        same("where guard 3 knows, behind the note", x.truth(known), P0);
        x.aloud(0);
        x.look(2, 3);
        same("note counts POSSIBLE worlds", x.note(2, 3), 16);
    }

    private static void ask() {
        NightdeskRota x = Nights.withFacts(1);
        x.look(0, 0);
        x.look(2, 0);
        same("only guard 1, who does not know", x.ask(2, 0), 0);
        same("nobody would have said it anywhere", x.possible(), -1L);
        same("guards 0 and 1", x.ask(3, 0), 1);
        same("guard 0 says that it knows", x.possible(), P0);
        same("now guard 1 does, too", x.ask(63, 0), 63);
        same("ASKS", x.night(8), 3);
        refused("ask(0, 0)", ARGUMENT, () -> x.ask(0, 0));
        refused("ask(64, 0)", ARGUMENT, () -> x.ask(64, 0));
        refused("ask(-1, 0)", ARGUMENT, () -> x.ask(-1, 0));
        refused("ask(1, 6)", INDEX, () -> x.ask(1, 6));
        refused("ask(1, -1)", INDEX, () -> x.ask(1, -1));
        refused("ask(0, 6): the first named exception", INDEX, () -> x.ask(0, 6));
        same("ASKS after wrong ones", x.night(8), 3);
        x.begin(0);
        x.look(0, 0);
        same("guard 0 does not know what is not so", x.ask(1, 0), 0);
        same("so all hear that it is not so", x.possible(), ~P0);
        x.begin(1);
        x.look(0, 0);
        x.look(1, 1);
        int either = x.say(3, 0, 1);
        same("all at once: 0 knows, 1 does not", x.ask(3, either), 1);
        same("they hear each other only afterwards", x.possible(), P0 & ~P1);
    }

    private static void flip() {
        NightdeskRota x = Nights.withFacts(5);
        int both = x.say(2, 0, 1);
        x.whisper(0, both);
        x.aloud(2);
        same("flip(0)", x.flip(0), 4);
        same("guard 0 tells apart what they became", x.alike(0, 6), ~P0 & P1 & P2);
        same("and all others", x.alike(0, 4), ~(~P0 & P1) & P2);
        same("POSSIBLE stays", x.possible(), P2);
        same("flip(2)", x.flip(2), 0);
        same("POSSIBLE becomes the other way", x.possible(), ~P2);
        same("flip(2) back", x.flip(2), 4);
        same("flip(5)", x.flip(5), 36);
        same("nobody lost anything", x.alike(0, 38), ~P0 & P1 & P2);
        refused("flip(-1)", INDEX, () -> x.flip(-1));
        refused("flip(6)", INDEX, () -> x.flip(6));
        same("SWITCHES", x.night(10), 4);
        x.begin(1);
        x.whisper(3, both);
        x.flip(0);
        for (int w = 0; w < 64; w++) {
            long alike = (w & 3) == 2 ? ~P0 & P1 : P0 | ~P1;
            same("alike(3, " + w + ") behind a switch", x.alike(3, w), alike);
        }
        for (int fact = 0; fact < 6; fact++) {
            NightdeskRota y = Nights.withFacts(63);
            y.look(1, fact);
            y.aloud(fact);
            same("flip(" + fact + ")", y.flip(fact), 63 - (1 << fact));
            same("all know that the fact " + fact + " is not so any more", y.truth(fact), 0L);
            same("the other 32 are possible", y.possible(), ~Nights.withFacts(0).truth(fact));
        }
    }

    private static void call() {
        NightdeskRota x = new NightdeskRota();
        same("call()", x.call(), 1);
        same("call() again", x.call(), 2);
        x.begin(3);
        same("call() ever", x.call(), 3);
        same("REFUSED", x.night(12), 3);
    }

    private static void isTrue() {
        NightdeskRota x = Nights.withFacts(1);
        int not = x.say(1, 1, 0);
        same("p0 in 1", x.isTrue(0, 1), true);
        same("p0 in 62", x.isTrue(0, 62), false);
        same("p5 in 63", x.isTrue(5, 63), true);
        same("-p1 in 0", x.isTrue(not, 0), true);
        x.aloud(0);
        same("-p1 in 0, that is not possible any more", x.isTrue(not, 0), false);
        same("-p1 in 1", x.isTrue(not, 1), true);
        refused("isTrue(0, -1)", INDEX, () -> x.isTrue(0, -1));
        refused("isTrue(0, 64)", INDEX, () -> x.isTrue(0, 64));
        refused("isTrue(-1, 0)", INDEX, () -> x.isTrue(-1, 0));
        refused("isTrue(7, 0)", INDEX, () -> x.isTrue(7, 0));
    }

    private static void truth() {
        NightdeskRota x = Nights.withFacts(1);
        same("p0, the world 63 as the sign", x.truth(0), P0);
        same("p1", x.truth(1), P1);
        same("p2", x.truth(2), P2);
        same("p3", x.truth(3), 0xFF00FF00FF00FF00L);
        same("p4", x.truth(4), 0xFFFF0000FFFF0000L);
        same("p5", x.truth(5), P5);
        x.aloud(0);
        same("p5 with p0 told", x.truth(5), P5 & P0);
        refused("truth(6)", INDEX, () -> x.truth(6));
        refused("truth(-1)", INDEX, () -> x.truth(-1));
    }

    private static void truthOfEachKind() {
        NightdeskRota x = Nights.withFacts(1);
        x.look(0, 0);
        x.look(1, 1);
        same("-p0", x.truth(x.say(1, 0, 0)), ~P0);
        int and = x.say(2, 0, 1);
        int or = x.say(3, 0, 1);
        same("p0&p1", x.truth(and), P0 & P1);
        same("p0|p1", x.truth(or), P0 | P1);
        same("K0:p0|p1", x.truth(x.say(4, 0, or)), P0);
        same("K1:p0|p1", x.truth(x.say(4, 1, or)), P1);
        same("K2:p0|p1", x.truth(x.say(4, 2, or)), 0L);
        int all = x.say(5, 3, or);
        int common = x.say(6, 3, or);
        same("E3:p0|p1", x.truth(all), P0 & P1);
        same("E1:p0|p1", x.truth(x.say(5, 1, or)), P0);
        same("C3:p0|p1", x.truth(common), 0L);
        same("C2:p0|p1", x.truth(x.say(6, 2, or)), P1);
        same("D3:p0&p1", x.truth(x.say(7, 3, and)), P0 & P1);
        same("D5:p0&p1", x.truth(x.say(7, 5, and)), 0L);
        int allKnowThatAll = x.say(5, 3, all);
        same("E3:E3:p0|p1", x.truth(allKnowThatAll), 0L);
        x.aloud(or);
        same("K2:p0|p1, as it was told", x.truth(10), P0 | P1);
        same("C3:p0|p1, as it was told", x.truth(common), P0 | P1);
        same("E3:E3:p0|p1, as it was told", x.truth(allKnowThatAll), P0 | P1);
    }

    private static void whoSeesAll() {
        NightdeskRota x = Nights.withFacts(63);
        int never = x.say(2, 0, x.say(1, 0, 0));
        for (int fact = 0; fact < 6; fact++) {
            same("look(5, " + fact + ")", x.look(5, fact), 32 >> fact);
        }
        same("parts of one that sees all", x.ofGuard(5, 0), 64);
        same("it knows nothing that is not so", x.truth(x.say(4, 5, never)), 0L);
        same("nor together with all", x.truth(x.say(7, 63, never)), 0L);
        same("it knows the last fact where it is so", x.truth(x.say(7, 48, 5)), P5);
        same("it knows all facts", x.ofGuard(5, 2), 63);
    }

    private static void of() {
        NightdeskRota x = Nights.withFacts(1);
        x.look(0, 0);
        x.look(4, 0);
        int not = x.say(1, 0, -7);
        int and = x.say(2, not, 1);
        int known = x.say(4, 0, 0);
        int common = x.say(6, 17, known);
        same("KIND", x.of(common, 0), 6);
        same("a", x.of(common, 1), 17);
        same("b", x.of(common, 2), known);
        same("b as it was given", x.of(not, 2), -7);
        same("in how many worlds", x.of(and, 3), 16);
        same("in how many worlds of the fact", x.of(0, 3), 32);
        same("true in REAL", x.of(0, 4), 1);
        same("not true in REAL", x.of(1, 4), 0);
        same("how many know it", x.of(0, 5), 2);
        same("who knows it", x.of(0, 6), 17);
        same("who knows that guard 0 knows it", x.of(known, 6), 17);
        same("who knows what is not so", x.of(not, 6), 0);
        same("not common to all", x.of(0, 7), 0);
        same("few", x.of(0, 8), 1);
        same("few of what nobody knows", x.of(1, 8), -1);
        same("how deep a fact is built", x.of(0, 9), 0);
        same("how deep a not is built", x.of(not, 9), 1);
        same("how deep the deeper one", x.of(and, 9), 2);
        same("how deep, whatever guard", x.of(known, 9), 1);
        same("how deep of a set", x.of(common, 9), 2);
        x.aloud(0);
        same("common to all", x.of(0, 7), 1);
        same("who knows what was told", x.of(0, 6), 63);
        same("in how many of the possible worlds", x.of(1, 3), 16);
        refused("of(0, -1)", ARGUMENT, () -> x.of(0, -1));
        refused("of(0, 10)", ARGUMENT, () -> x.of(0, 10));
        refused("of(-1, 0)", INDEX, () -> x.of(-1, 0));
        refused("of(10, 0)", INDEX, () -> x.of(10, 0));
        refused("of(10, 10): the first named exception", INDEX, () -> x.of(10, 10));
    }

    private static void few() {
        NightdeskRota x = Nights.withFacts(15);
        int two = x.say(2, 0, 1);
        int three = x.say(2, two, 2);
        x.look(5, 0);
        x.look(3, 1);
        x.look(1, 2);
        same("all three", x.of(three, 8), 42);
        same("the two of them", x.of(two, 8), 40);
        x.look(4, 0);
        same("of several the smallest set", x.of(two, 8), 24);
        x.look(2, 0);
        x.look(2, 1);
        same("the fewest ahead of the smallest", x.of(two, 8), 4);
        same("the fewest for three", x.of(three, 8), 6);
        same("not even all would", x.of(3, 8), -1);
        x.aloud(3);
        same("what all know needs the smallest one", x.of(3, 8), 1);
        NightdeskRota y = Nights.withFacts(63);
        int all = 0;
        for (int fact = 0; fact < 6; fact++) {
            y.look(5 - fact, fact);
            all = fact == 0 ? 0 : y.say(2, all, fact);
        }
        same("all six", y.of(all, 8), 63);
    }

    private static void alike() {
        NightdeskRota x = Nights.withFacts(1);
        same("nothing told apart", x.alike(0, 1), -1L);
        x.look(3, 2);
        same("alike(3, 4)", x.alike(3, 4), P2);
        same("alike(3, 1)", x.alike(3, 1), ~P2);
        x.aloud(0);
        same("POSSIBLE ones only", x.alike(3, 5), P2 & P0);
        same("of one that is not POSSIBLE", x.alike(3, 4), 0L);
        same("of one that is not, for one who sees nothing", x.alike(0, 62), 0L);
        same("of the world 63", x.alike(0, 63), P0);
        refused("alike(-1, 0)", INDEX, () -> x.alike(-1, 0));
        refused("alike(6, 0)", INDEX, () -> x.alike(6, 0));
        refused("alike(0, -1)", INDEX, () -> x.alike(0, -1));
        refused("alike(0, 64)", INDEX, () -> x.alike(0, 64));
    }

    private static void ofGuard() {
        NightdeskRota x = Nights.withFacts(2);
        int both = x.say(2, 0, 1);
        x.look(0, 0);
        x.look(1, 0);
        x.look(1, 1);
        x.look(3, 1);
        x.whisper(4, both);
        same("parts of one that sees nothing", x.ofGuard(2, 0), 1);
        same("parts", x.ofGuard(0, 0), 2);
        same("parts of two facts", x.ofGuard(1, 0), 4);
        same("parts of a whisper", x.ofGuard(4, 0), 2);
        same("alike to REAL", x.ofGuard(1, 1), 16);
        same("alike to REAL of a whisper", x.ofGuard(4, 1), 48);
        same("a fact that is not so is known, too", x.ofGuard(0, 2), 1);
        same("both facts", x.ofGuard(1, 2), 3);
        same("none by that whisper", x.ofGuard(4, 2), 0);
        same("sentences that it knows: none that is not so", x.ofGuard(0, 3), 0);
        same("sentences that it knows", x.ofGuard(1, 3), 1);
        same("as sharp as guard 0", x.ofGuard(0, 4), 3);
        same("as sharp as guard 1: itself", x.ofGuard(1, 4), 2);
        same("as sharp as guard 2: all", x.ofGuard(2, 4), 63);
        same("as sharp as guard 4", x.ofGuard(4, 4), 18);
        x.aloud(1);
        same("parts of the possible worlds", x.ofGuard(1, 0), 2);
        same("p1 is known to all", x.ofGuard(2, 2), 2);
        same("as sharp as guard 3 in what is possible", x.ofGuard(3, 4), 63);
        same("as sharp as guard 0 in what is possible", x.ofGuard(0, 4), 19);
        refused("ofGuard(0, -1)", ARGUMENT, () -> x.ofGuard(0, -1));
        refused("ofGuard(0, 5)", ARGUMENT, () -> x.ofGuard(0, 5));
        refused("ofGuard(-1, 0)", INDEX, () -> x.ofGuard(-1, 0));
        refused("ofGuard(6, 0)", INDEX, () -> x.ofGuard(6, 0));
        refused("ofGuard(6, 5): the first named exception", INDEX, () -> x.ofGuard(6, 5));
    }

    private static void depth() {
        same("no hat", Nights.withHats(0).depth(7, 7), -1);
        same("one hat", Nights.withHats(1).depth(7, 7), 0);
        same("two hats", Nights.withHats(3).depth(7, 7), 1);
        NightdeskRota x = Nights.withHats(7);
        same("three hats", x.depth(7, 7), 2);
        same("three hats, for one guard", x.depth(1, 7), 99);
        same("three hats, for two guards", x.depth(3, 7), 99);
        same("with a guard that sees nothing", x.depth(15, 7), 0);
        x.aloud(7);
        same("it never ends", x.depth(63, 7), 99);
        refused("depth(0, 0)", ARGUMENT, () -> x.depth(0, 0));
        refused("depth(64, 0)", ARGUMENT, () -> x.depth(64, 0));
        refused("depth(1, -1)", INDEX, () -> x.depth(1, -1));
        refused("depth(1, 8)", INDEX, () -> x.depth(1, 8));
        refused("depth(0, 8): the first named exception", INDEX, () -> x.depth(0, 8));
    }

    private static void depthOnALongWay() {
        NightdeskRota ring = Nights.withRing(32);
        same("half a ring", ring.depth(3, Nights.ANY_FACT), 31);
        int common = ring.say(6, 3, Nights.ANY_FACT);
        same("common nowhere on the ring", ring.truth(common), 0L);
        NightdeskRota row = Nights.withRing(63);
        row.whisper(1, Nights.ANY_FACT);
        same("a row of all 64 worlds", row.depth(3, Nights.ANY_FACT), 62);
        same("the row, for guard 0", row.depth(1, Nights.ANY_FACT), 99);
        common = row.say(6, 3, Nights.ANY_FACT);
        same("common nowhere on the row", row.truth(common), 0L);
        row.aloud(Nights.ANY_FACT);
        same("the row without its end", row.depth(3, Nights.ANY_FACT), 99);
        same("common all along the row", row.truth(common), ~1L);
    }

    private static void night() {
        NightdeskRota x = Nights.withFacts(6);
        x.look(3, 1);
        x.look(2, 2);
        same("REAL", x.night(0), 6);
        same("POSSIBLE", x.night(1), 64);
        same("sentences", x.night(2), 6);
        same("those that are true", x.night(3), 2);
        same("those that are common", x.night(4), 0);
        same("of several as good the smallest", x.night(11), 2);
        x.look(4, 1);
        x.look(4, 2);
        same("the fewest worlds", x.night(11), 4);
        x.aloud(1);
        same("those that are common now", x.night(4), 1);
        same("POSSIBLE now", x.night(1), 32);
        x.whisper(0, 0);
        x.whisper(0, 1);
        x.note(0, 1);
        x.note(0, 1);
        x.note(1, 0);
        x.ask(1, 1);
        x.ask(1, 1);
        x.flip(0);
        x.call();
        same("TOLD ALOUD", x.night(5), 1);
        same("WHISPERED", x.night(6), 2);
        same("NOTES", x.night(7), 3);
        same("ASKS", x.night(8), 2);
        same("LOOKS", x.night(9), 4);
        same("SWITCHES", x.night(10), 1);
        same("REFUSED", x.night(12), 1);
        refused("night(-1)", ARGUMENT, () -> x.night(-1));
        refused("night(13)", ARGUMENT, () -> x.night(13));
    }

    private static void possible() {
        NightdeskRota x = Nights.withFacts(3);
        same("all", x.possible(), -1L);
        x.aloud(1);
        same("with p1 told", x.possible(), P1);
        x.aloud(0);
        same("with p0 told, too", x.possible(), P0 & P1);
        x.begin(0);
        same("all again", x.possible(), -1L);
    }

    private static void text() {
        NightdeskRota x = Nights.withFacts(0);
        same("a fact", x.text(5), "p5");
        int and = x.say(2, 0, 1);
        int or = x.say(3, and, 2);
        int not = x.say(1, or, 5);
        same("and", x.text(and), "(p0&p1)");
        same("or", x.text(or), "((p0&p1)|p2)");
        same("not", x.text(not), "-((p0&p1)|p2)");
        int known = x.say(4, 5, not);
        int all = x.say(5, 63, known);
        int common = x.say(6, 10, all);
        int deeper = x.say(7, 1, common);
        same("K", x.text(known), "K5:-((p0&p1)|p2)");
        same("E", x.text(all), "E63:K5:-((p0&p1)|p2)");
        same("C, 6 deep", x.text(common), "C10:E63:K5:-((p0&p1)|p2)");
        same("D, 7 deep", x.text(deeper), "...");
        same("with one that is deeper", x.text(x.say(2, 0, deeper)), "...");
        same("D", x.text(x.say(7, 33, 4)), "D33:p4");
        refused("text(-1)", INDEX, () -> x.text(-1));
        refused("text(16)", INDEX, () -> x.text(16));
        NightdeskRota wide = new NightdeskRota();
        wide.say(0, 3, 0);
        String due = "p3";
        for (int deep = 1; deep <= 6; deep++) {
            wide.say(2, deep - 1, deep - 1);
            due = "(" + due + "&" + due + ")";
            same("the widest one " + deep + " deep", wide.text(deep), due);
        }
        wide.say(2, 6, 0);
        same("7 deep by its first one", wide.text(7), "...");
    }

    private static void wit() {
        NightdeskRota x = new NightdeskRota();
        same("without sentences", x.wit(0), 0.0);
        x.begin(1);
        x.say(0, 0, 0);
        x.say(0, 1, 0);
        x.say(1, 1, 0);
        same("nothing", x.wit(0), 0.0);
        x.look(0, 0);
        same("one of three", x.wit(0), 1.0 / 3.0);
        x.look(0, 1);
        same("two of three", x.wit(0), 2.0 / 3.0);
        same("guard 5 nothing", x.wit(5), 0.0);
        refused("wit(-1)", INDEX, () -> x.wit(-1));
        refused("wit(6)", INDEX, () -> x.wit(6));
    }

    private static void notes() {
        NightdeskRota x = Nights.withFacts(15);
        int two = x.say(2, 0, 1);
        int three = x.say(2, two, 2);
        x.look(0, 0);
        x.look(1, 1);
        x.look(2, 2);
        same("who sees it needs none", x.notes(0, 0), 0);
        same("one from guard 0", x.notes(5, 0), 1);
        same("one to it who has the other half", x.notes(1, two), 1);
        same("two", x.notes(5, two), 2);
        same("two for one who has a third", x.notes(2, three), 2);
        same("three would be needed", x.notes(5, three), -1);
        same("nobody knows it", x.notes(5, 3), -1);
        same("what is not so", x.notes(5, 4), -1);
        x.note(0, 1);
        same("two behind a note that was passed on", x.notes(5, three), 2);
        same("nothing is passed on by asking", x.night(7), 1);
        refused("notes(-1, 0)", INDEX, () -> x.notes(-1, 0));
        refused("notes(6, 0)", INDEX, () -> x.notes(6, 0));
        refused("notes(0, -1)", INDEX, () -> x.notes(0, -1));
        refused("notes(0, 8)", INDEX, () -> x.notes(0, 8));
    }

    private static void notesOfWhatOthersKnow() {
        NightdeskRota x = Nights.withFacts(1);
        x.look(0, 0);
        x.look(2, 0);
        int known = x.say(4, 1, 0);
        int knownOfKnown = x.say(4, 2, known);
        int unknown = x.say(1, known, 0);
        same("a note to another one", x.notes(2, known), 1);
        same("a note to it and one to another", x.notes(3, known), 2);
        same("guard 0 will know that 2 knows that 1 knows", x.notes(0, knownOfKnown), 1);
        same("what is so now needs none", x.notes(3, unknown), 0);
        same("no note to it makes another one know", x.bestNote(2, known), -1);
        x.note(0, 1);
        same("no note makes one forget", x.notes(3, unknown), -1);
        x.begin(3);
        x.look(0, 0);
        x.look(1, 1);
        int knownTo0 = x.say(4, 0, 1);
        same("a note to guard 0", x.notes(1, knownTo0), 1);
        int both = x.say(2, 0, 1);
        int passed = x.say(2, known, x.say(4, 2, both));
        same("one note passed on by another", x.notes(2, passed), 2);
        int allKnow = x.say(5, 3, both);
        same("notes both ways", x.notes(0, allKnow), 2);
        same("three would be needed", x.notes(5, allKnow), -1);
    }

    private static int sayWhoKnowsItsHat(NightdeskRota x) {
        int first = x.say(3, x.say(4, 0, 0), x.say(4, 1, 1));
        return x.say(3, first, x.say(4, 2, 2));
    }

    private static void rounds() {
        int[] due = {0, 0, 1, 2};
        for (int hats = 1; hats <= 3; hats++) {
            NightdeskRota x = Nights.withHats((1 << hats) - 1);
            int s = sayWhoKnowsItsHat(x);
            same("nobody told of a hat", x.rounds(7, s), -1);
            x.aloud(7);
            same("rounds of " + hats + " hats", x.rounds(7, s), due[hats]);
            for (int round = 0; round < due[hats]; round++) {
                same("none knows in round " + round, x.ask(7, s), 0);
            }
            same("who knows then", x.ask(7, s) != 0, true);
        }
        NightdeskRota x = Nights.withFacts(1);
        x.look(0, 0);
        same("one does now", x.rounds(3, 0), 0);
        same("guard 1 never will", x.rounds(2, 0), -1);
        same("what is not so", x.rounds(63, 1), -1);
        same("nobody was asked", x.night(8), 0);
        refused("rounds(0, 0)", ARGUMENT, () -> x.rounds(0, 0));
        refused("rounds(64, 0)", ARGUMENT, () -> x.rounds(64, 0));
        refused("rounds(1, -1)", INDEX, () -> x.rounds(1, -1));
        refused("rounds(1, 6)", INDEX, () -> x.rounds(1, 6));
        refused("rounds(64, 6): the first named exception", INDEX, () -> x.rounds(64, 6));
    }

    /** Who can tell its world from all others stands at an end of the row; each ask takes both ends off. */
    private static void roundsOnALongWay() {
        NightdeskRota x = Nights.withRing(32);
        int not = x.say(1, 0, 0);
        int left = x.say(3, x.say(4, 0, 0), x.say(4, 0, not));
        int s = x.say(3, x.say(3, left, x.say(4, 1, 0)), x.say(4, 1, not));
        same("the ring has no end", x.rounds(3, s), -1);
        x.aloud(Nights.ANY_FACT);
        same("the row from both its ends", x.rounds(3, s), 31);
    }

    private static void wouldTell() {
        NightdeskRota x = Nights.withFacts(1);
        x.say(4, 0, 0);
        x.say(1, 6, 0);
        x.say(5, 63, 0);
        same("p0, K0:p0, E63:p0", x.wouldTell(0), 3);
        same("that guard 0 does not know it", x.wouldTell(7), 2);
        same("how many there are", x.night(3), 2);
        same("what is not true", x.wouldTell(1), -1);
        same("what is not true yet", x.wouldTell(6), -1);
        same("nothing was told", x.night(5), 0);
        same("all is possible", x.possible(), -1L);
        x.aloud(0);
        same("now it would", x.wouldTell(6), 3);
        refused("wouldTell(-1)", INDEX, () -> x.wouldTell(-1));
        refused("wouldTell(9)", INDEX, () -> x.wouldTell(9));
    }

    private static void bestNote() {
        NightdeskRota x = Nights.withFacts(15);
        x.look(0, 0);
        x.look(2, 0);
        x.look(2, 1);
        x.look(4, 0);
        x.look(4, 2);
        same("the fewest worlds, the smallest number", x.bestNote(3, 0), 2);
        same("only who knows it", x.bestNote(3, 2), 4);
        same("from all others, not itself", x.bestNote(2, 0), 4);
        same("no note would do", x.bestNote(3, 3), -1);
        same("what is not so", x.bestNote(0, 4), -1);
        x.look(5, 5);
        same("with what it has itself", x.bestNote(5, 1), 2);
        int both = x.say(2, 1, 2);
        same("with what it has itself for two", x.bestNote(4, both), 2);
        same("two would be needed", x.bestNote(3, both), -1);
        same("NOTES", x.night(7), 0);
        x.look(0, 4);
        x.look(0, 2);
        same("guard 0", x.bestNote(1, 0), 0);
        same("that it will know it itself", x.bestNote(1, x.say(4, 1, 1)), 2);
        x.aloud(3);
        same("what it knows already", x.bestNote(3, 3), 0);
        refused("bestNote(-1, 0)", INDEX, () -> x.bestNote(-1, 0));
        refused("bestNote(6, 0)", INDEX, () -> x.bestNote(6, 0));
        refused("bestNote(0, -1)", INDEX, () -> x.bestNote(0, -1));
        refused("bestNote(0, 8)", INDEX, () -> x.bestNote(0, 8));
    }

    private static void isSound() {
        same("a new object", new NightdeskRota().isSound(), true);
        NightdeskRota x = Nights.withHats(7);
        for (int kind = 5; kind <= 7; kind++) {
            x.say(kind, 7, 7);
        }
        same("hats", x.isSound(), true);
        x.aloud(7);
        same("hats, told", x.isSound(), true);
        x.flip(1);
        same("hats, switched", x.isSound(), true);
        same("the ring", Nights.withRing(9).isSound(), true);
    }

    private static long add(long d, long v) {
        return d * 31L + v;
    }

    /** The checksum as the document tells it, of the object's own answers. */
    private static long digestOf(NightdeskRota x) {
        long d = 6121L;
        for (int what = 0; what <= 12; what++) {
            d = add(d, x.night(what));
        }
        d = add(d, x.possible());
        for (int guard = 0; guard < 6; guard++) {
            for (int what = 0; what <= 4; what++) {
                d = add(d, x.ofGuard(guard, what));
            }
            d = add(d, x.alike(guard, x.night(0)));
        }
        int n = x.night(2);
        for (int s = 0; s < n; s++) {
            d = add(d, x.truth(s));
            for (int what = 0; what <= 9; what++) {
                d = add(d, x.of(s, what));
            }
            d = add(d, x.depth(63, s));
        }
        if (n > 0) {
            d = add(d, x.notes(0, n - 1));
            d = add(d, x.rounds(63, n - 1));
        }
        d = add(d, (long) (64.0 * x.wit(0)));
        return add(d, x.isSound() ? 1 : 0);
    }

    private static void digest() {
        long[] fresh = {
            0, 64, 0, 0, 0, 0, 0, 0, 0, 0, 0, 0, 0, -1,
            1, 64, 0, 0, 63, -1, 1, 64, 0, 0, 63, -1, 1, 64, 0, 0, 63, -1,
            1, 64, 0, 0, 63, -1, 1, 64, 0, 0, 63, -1, 1, 64, 0, 0, 63, -1,
            0, 1
        };
        long d = 6121L;
        for (long v : fresh) {
            d = add(d, v);
        }
        same("digest() of a new object", new NightdeskRota().digest(), d);
        NightdeskRota x = Nights.withHats(7);
        x.whisper(0, 0);
        same("digest() of hats", x.digest(), digestOf(x));
        x.aloud(7);
        sayWhoKnowsItsHat(x);
        x.call();
        same("digest() of hats, told", x.digest(), digestOf(x));
        NightdeskRota ring = Nights.withRing(40);
        same("digest() of the ring", ring.digest(), digestOf(ring));
    }

    private static void whatWouldBeChangesNothing() {
        NightdeskRota x = Nights.withHats(6);
        int s = sayWhoKnowsItsHat(x);
        x.aloud(7);
        long before = digestOf(x);
        for (int guard = 0; guard < 6; guard++) {
            x.notes(guard, s);
            x.notes(guard, 0);
            x.bestNote(guard, 1);
        }
        for (int told = 0; told <= s; told++) {
            x.wouldTell(told);
            x.rounds(7, told);
        }
        x.isSound();
        x.digest();
        same("the state behind all that would be", digestOf(x), before);
        same("what is possible", x.possible(), P0 | P1 | P2);
    }

    private static void whatThrowsChangesNothing() {
        NightdeskRota x = Nights.withHats(6);
        x.aloud(7);
        long before = x.digest();
        Checks.Call[] wrong = {
            () -> x.begin(64), () -> x.say(0, 6, 0), () -> x.say(9, 0, 0), () -> x.look(6, 0), () -> x.look(0, 6),
            () -> x.aloud(0), () -> x.aloud(99), () -> x.whisper(0, 99), () -> x.whisper(6, 0), () -> x.note(6, 0),
            () -> x.note(0, 6), () -> x.note(1, 1), () -> x.ask(0, 0), () -> x.ask(1, 99), () -> x.flip(6),
            () -> x.isTrue(0, 64), () -> x.truth(-1), () -> x.of(0, 10), () -> x.alike(0, 64), () -> x.ofGuard(0, 5),
            () -> x.depth(0, 0), () -> x.night(13), () -> x.text(-1), () -> x.wit(6), () -> x.notes(0, 99),
            () -> x.rounds(0, 0), () -> x.wouldTell(99), () -> x.bestNote(6, 0)
        };
        for (int n = 0; n < wrong.length; n++) {
            same("wrong call " + n + " throws", Checks.outcome(wrong[n]).toString().endsWith("Exception"), true);
            same("the state behind wrong call " + n, x.digest(), before);
        }
    }
}
