import java.util.ArrayList;
import java.util.List;

/**
 * Each range that a promise names, from just below it to just above it, on nights without a sentence, with
 * one, with some and with 40: what is inside is answered, what is outside throws the very exception that is
 * named (the first one, if several apply) and changes nothing.
 */
final class RangesTest {
    private static final Class<IllegalArgumentException> ARGUMENT = IllegalArgumentException.class;
    private static final Class<IllegalStateException> STATE = IllegalStateException.class;
    private static final Class<IndexOutOfBoundsException> INDEX = IndexOutOfBoundsException.class;

    private static final Checks CHECKS = new Checks("RangesTest");

    /** A call of which one argument is tried. */
    private interface Trial {
        Object answer(NightdeskRota x, int v);
    }

    private record Range(String name, int low, int high, Class<? extends Exception> outside, Trial trial) {
    }

    private record WrongCall(String name, Class<? extends Exception> due, Trial trial) {
    }

    public static void main(String[] args) {
        for (int sentences : new int[] {0, 1, 8, 40}) {
            for (Range range : rangesWith(sentences)) {
                inside(range, sentences);
                outside(range, sentences);
            }
            severalApply(sentences);
        }
        for (int sentences : new int[] {0, 1, 8, 39}) {
            for (Range range : rangesOfSay(sentences)) {
                inside(range, sentences);
                outside(range, sentences);
            }
        }
        sayWithForty();
        everyArgumentFarOff();
        toldAloudWhatIsNotTrue();
        aNoteToItself();
        CHECKS.ended();
    }

    /** A night in which all sentences are TRUE in REAL, some was told, and each guard has another desk. */
    private static NightdeskRota nightWith(int sentences) {
        NightdeskRota x = new NightdeskRota();
        x.begin(63);
        for (int s = 0; s < sentences; s++) {
            if (s < 6) {
                x.say(0, s, s - 3);
            } else {
                x.say(3, s - 6, s - 1);
            }
        }
        for (int guard = 0; guard < 5; guard++) {
            x.look(guard, guard);
        }
        x.note(0, 1);
        if (sentences > 0) {
            x.whisper(3, sentences - 1);
        }
        if (sentences > 3) {
            x.aloud(3);
            x.ask(5, 2);
        }
        x.call();
        return x;
    }

    /** All that can be asked of a night, in fewer than the 512 calls of an object. */
    private static String traceOf(NightdeskRota x) {
        StringBuilder trace = new StringBuilder();
        for (int what = 0; what <= 12; what++) {
            trace.append(x.night(what)).append(' ');
        }
        trace.append(x.possible()).append(' ');
        for (int guard = 0; guard < 6; guard++) {
            for (int world = 0; world < 64; world++) {
                trace.append(x.alike(guard, world)).append(' ');
            }
        }
        return trace.append(x.digest()).toString();
    }

    private static List<Range> rangesWith(int n) {
        List<Range> all = new ArrayList<>();
        all.add(new Range("begin(world)", 0, 63, ARGUMENT, (x, v) -> x.begin(v)));
        all.add(new Range("look(guard, ..)", 0, 5, INDEX, (x, v) -> x.look(v, 0)));
        all.add(new Range("look(.., fact)", 0, 5, INDEX, (x, v) -> x.look(0, v)));
        all.add(new Range("note(from, ..)", 0, 5, INDEX, (x, v) -> x.note(v, v == 0 ? 1 : 0)));
        all.add(new Range("note(.., to)", 0, 5, INDEX, (x, v) -> x.note(v == 0 ? 1 : 0, v)));
        all.add(new Range("flip(fact)", 0, 5, INDEX, (x, v) -> x.flip(v)));
        all.add(new Range("alike(guard, ..)", 0, 5, INDEX, (x, v) -> x.alike(v, 63)));
        all.add(new Range("alike(.., world)", 0, 63, INDEX, (x, v) -> x.alike(5, v)));
        all.add(new Range("ofGuard(guard, ..)", 0, 5, INDEX, (x, v) -> x.ofGuard(v, 4)));
        all.add(new Range("ofGuard(.., what)", 0, 4, ARGUMENT, (x, v) -> x.ofGuard(5, v)));
        all.add(new Range("night(what)", 0, 12, ARGUMENT, (x, v) -> x.night(v)));
        all.add(new Range("wit(guard)", 0, 5, INDEX, (x, v) -> x.wit(v)));
        addOfSentences(all, n);
        if (n > 0) {
            addBesideASentence(all, n - 1);
        }
        return all;
    }

    /** Without a sentence the range is empty: 0 is just above it. */
    private static void addOfSentences(List<Range> all, int n) {
        all.add(new Range("aloud(sentence)", 0, n - 1, INDEX, (x, v) -> x.aloud(v)));
        all.add(new Range("whisper(.., sentence)", 0, n - 1, INDEX, (x, v) -> x.whisper(5, v)));
        all.add(new Range("ask(.., sentence)", 0, n - 1, INDEX, (x, v) -> x.ask(63, v)));
        all.add(new Range("isTrue(sentence, ..)", 0, n - 1, INDEX, (x, v) -> x.isTrue(v, 0)));
        all.add(new Range("truth(sentence)", 0, n - 1, INDEX, (x, v) -> x.truth(v)));
        all.add(new Range("of(sentence, ..)", 0, n - 1, INDEX, (x, v) -> x.of(v, 9)));
        all.add(new Range("depth(.., sentence)", 0, n - 1, INDEX, (x, v) -> x.depth(63, v)));
        all.add(new Range("text(sentence)", 0, n - 1, INDEX, (x, v) -> x.text(v)));
        all.add(new Range("notes(.., sentence)", 0, n - 1, INDEX, (x, v) -> x.notes(5, v)));
        all.add(new Range("rounds(.., sentence)", 0, n - 1, INDEX, (x, v) -> x.rounds(63, v)));
        all.add(new Range("wouldTell(sentence)", 0, n - 1, INDEX, (x, v) -> x.wouldTell(v)));
        all.add(new Range("bestNote(.., sentence)", 0, n - 1, INDEX, (x, v) -> x.bestNote(5, v)));
    }

    private static void addBesideASentence(List<Range> all, int s) {
        all.add(new Range("whisper(guard, ..)", 0, 5, INDEX, (x, v) -> x.whisper(v, s)));
        all.add(new Range("ask(guards, ..)", 1, 63, ARGUMENT, (x, v) -> x.ask(v, s)));
        all.add(new Range("isTrue(.., world)", 0, 63, INDEX, (x, v) -> x.isTrue(s, v)));
        all.add(new Range("of(.., what)", 0, 9, ARGUMENT, (x, v) -> x.of(s, v)));
        all.add(new Range("depth(guards, ..)", 1, 63, ARGUMENT, (x, v) -> x.depth(v, s)));
        all.add(new Range("notes(guard, ..)", 0, 5, INDEX, (x, v) -> x.notes(v, s)));
        all.add(new Range("rounds(guards, ..)", 1, 63, ARGUMENT, (x, v) -> x.rounds(v, s)));
        all.add(new Range("bestNote(guard, ..)", 0, 5, INDEX, (x, v) -> x.bestNote(v, s)));
    }

    private static List<Range> rangesOfSay(int n) {
        List<Range> all = new ArrayList<>();
        all.add(new Range("say(0, fact, ..)", 0, 5, ARGUMENT, (x, v) -> x.say(0, v, 0)));
        all.add(new Range("say(1, sentence, ..)", 0, n - 1, ARGUMENT, (x, v) -> x.say(1, v, 0)));
        all.add(new Range("say(2, .., sentence)", 0, n - 1, ARGUMENT, (x, v) -> x.say(2, 0, v)));
        all.add(new Range("say(2, sentence, ..)", 0, n - 1, ARGUMENT, (x, v) -> x.say(2, v, 0)));
        all.add(new Range("say(3, .., sentence)", 0, n - 1, ARGUMENT, (x, v) -> x.say(3, 0, v)));
        all.add(new Range("say(3, sentence, ..)", 0, n - 1, ARGUMENT, (x, v) -> x.say(3, v, 0)));
        all.add(new Range("say(4, .., sentence)", 0, n - 1, ARGUMENT, (x, v) -> x.say(4, 0, v)));
        all.add(new Range("say(5, .., sentence)", 0, n - 1, ARGUMENT, (x, v) -> x.say(5, 1, v)));
        all.add(new Range("say(6, .., sentence)", 0, n - 1, ARGUMENT, (x, v) -> x.say(6, 1, v)));
        all.add(new Range("say(7, .., sentence)", 0, n - 1, ARGUMENT, (x, v) -> x.say(7, 1, v)));
        if (n > 0) {
            all.add(new Range("say(4, guard, ..)", 0, 5, ARGUMENT, (x, v) -> x.say(4, v, 0)));
            all.add(new Range("say(5, guards, ..)", 1, 63, ARGUMENT, (x, v) -> x.say(5, v, 0)));
            all.add(new Range("say(6, guards, ..)", 1, 63, ARGUMENT, (x, v) -> x.say(6, v, 0)));
            all.add(new Range("say(7, guards, ..)", 1, 63, ARGUMENT, (x, v) -> x.say(7, v, 0)));
        }
        // With two sentences or more a = 1 is right for every kind.
        if (n > 1) {
            all.add(new Range("say(kind, ..)", 0, 7, ARGUMENT, (x, v) -> x.say(v, 1, 0)));
        }
        return all;
    }

    private static void inside(Range range, int sentences) {
        for (int v = range.low(); v <= range.high(); v++) {
            NightdeskRota x = nightWith(sentences);
            int value = v;
            Object got = Checks.outcome(() -> range.trial().answer(x, value));
            CHECKS.same(range.name() + " with " + v + " of " + sentences + " sentences is answered, not " + got,
                    isAnException(got), false);
        }
    }

    private static void outside(Range range, int sentences) {
        String before = traceOf(nightWith(sentences));
        int[] wrong = {
            range.low() - 1, range.high() + 1, range.high() + 2, range.low() - 64, range.high() + 64,
            range.high() + 65, Integer.MIN_VALUE, Integer.MAX_VALUE
        };
        for (int v : wrong) {
            throwsAndChangesNothing(new WrongCall(range.name(), range.outside(), range.trial()), v, sentences, before);
        }
    }

    private static void throwsAndChangesNothing(WrongCall call, int v, int sentences, String before) {
        NightdeskRota x = nightWith(sentences);
        String name = call.name() + " with " + v + " of " + sentences + " sentences";
        CHECKS.refused(name, call.due(), () -> call.trial().answer(x, v));
        CHECKS.same("the state behind " + name, traceOf(x), before);
    }

    private static boolean isAnException(Object got) {
        return got instanceof String && ((String) got).startsWith("java.");
    }

    /** «If several exceptions apply, the one that is named first is thrown.» */
    private static void severalApply(int n) {
        String before = traceOf(nightWith(n));
        List<WrongCall> all = new ArrayList<>();
        all.add(new WrongCall("note: no GUARD, and both the same", INDEX, (x, v) -> x.note(v, v)));
        all.add(new WrongCall("ask: no SENTENCE, and no set", INDEX, (x, v) -> x.ask(v < 0 ? 0 : 64, v)));
        all.add(new WrongCall("of: no SENTENCE, and not asked so", INDEX, (x, v) -> x.of(v, v < 0 ? -1 : 10)));
        all.add(new WrongCall("ofGuard: no GUARD, and not asked so", INDEX, (x, v) -> x.ofGuard(v, v < 0 ? -1 : 5)));
        all.add(new WrongCall("depth: no SENTENCE, and no set", INDEX, (x, v) -> x.depth(v < 0 ? 0 : 64, v)));
        all.add(new WrongCall("rounds: no SENTENCE, and no set", INDEX, (x, v) -> x.rounds(v < 0 ? 0 : 64, v)));
        all.add(new WrongCall("aloud: no SENTENCE, so not TRUE either", INDEX, (x, v) -> x.aloud(v)));
        all.add(new WrongCall("look: neither a GUARD nor a FACT", INDEX, (x, v) -> x.look(v, v)));
        all.add(new WrongCall("whisper: neither a GUARD nor a SENTENCE", INDEX, (x, v) -> x.whisper(v, v)));
        all.add(new WrongCall("isTrue: neither a SENTENCE nor a WORLD", INDEX, (x, v) -> x.isTrue(v, v < 0 ? -1 : 64)));
        all.add(new WrongCall("alike: neither a GUARD nor a WORLD", INDEX, (x, v) -> x.alike(v, v < 0 ? -1 : 64)));
        all.add(new WrongCall("notes: neither a GUARD nor a SENTENCE", INDEX, (x, v) -> x.notes(v, v)));
        all.add(new WrongCall("bestNote: neither a GUARD nor a SENTENCE", INDEX, (x, v) -> x.bestNote(v, v)));
        int above = Math.max(6, n);
        for (WrongCall call : all) {
            for (int v : new int[] {-1, above, Integer.MIN_VALUE, Integer.MAX_VALUE}) {
                throwsAndChangesNothing(call, v, n, before);
            }
        }
    }

    /** «Throws IllegalStateException if there are 40», but IllegalArgumentException is named first. */
    private static void sayWithForty() {
        String before = traceOf(nightWith(40));
        for (int kind = 0; kind <= 7; kind++) {
            int k = kind;
            throwsAndChangesNothing(new WrongCall("say(" + k + ", 1, ..)", STATE, (x, v) -> x.say(k, 1, v)), 39, 40, before);
            throwsAndChangesNothing(new WrongCall("say(" + k + ", .., 0)", ARGUMENT, (x, v) -> x.say(k, v, 0)), 64, 40, before);
            throwsAndChangesNothing(new WrongCall("say(" + k + ", .., 0)", ARGUMENT, (x, v) -> x.say(k, v, 0)), -1, 40, before);
            Class<? extends Exception> due = k < 2 ? STATE : ARGUMENT;
            throwsAndChangesNothing(new WrongCall("say(" + k + ", 1, ..)", due, (x, v) -> x.say(k, 1, v)), 40, 40, before);
            throwsAndChangesNothing(new WrongCall("say(" + k + ", 1, ..)", due, (x, v) -> x.say(k, 1, v)), -1, 40, before);
        }
        throwsAndChangesNothing(new WrongCall("say(kind, 1, 0)", ARGUMENT, (x, v) -> x.say(v, 1, 0)), -1, 40, before);
        throwsAndChangesNothing(new WrongCall("say(kind, 1, 0)", ARGUMENT, (x, v) -> x.say(v, 1, 0)), 8, 40, before);
        NightdeskRota x = nightWith(39);
        CHECKS.same("the 40th is built", x.say(7, 63, 38), 39);
        CHECKS.refused("the 41st is not", STATE, () -> x.say(7, 63, 38));
        x.begin(63);
        CHECKS.refused("nor behind begin: SENTENCES stay", STATE, () -> x.say(7, 63, 38));
    }

    /** What a bit of a number could hide: a row of numbers far off every range, in every argument at once. */
    private static void everyArgumentFarOff() {
        String before = traceOf(nightWith(8));
        for (int v : new int[] {Integer.MIN_VALUE, -1000000, -65, -64, 64, 65, 128, 256, 1 << 16, Integer.MAX_VALUE}) {
            throwsAndChangesNothing(new WrongCall("begin", ARGUMENT, (x, w) -> x.begin(w)), v, 8, before);
            throwsAndChangesNothing(new WrongCall("say", ARGUMENT, (x, w) -> x.say(w, w, w)), v, 8, before);
            throwsAndChangesNothing(new WrongCall("say of a FACT", ARGUMENT, (x, w) -> x.say(0, w, w)), v, 8, before);
            throwsAndChangesNothing(new WrongCall("flip", INDEX, (x, w) -> x.flip(w)), v, 8, before);
            throwsAndChangesNothing(new WrongCall("night", ARGUMENT, (x, w) -> x.night(w)), v, 8, before);
            throwsAndChangesNothing(new WrongCall("truth", INDEX, (x, w) -> x.truth(w)), v, 8, before);
            throwsAndChangesNothing(new WrongCall("text", INDEX, (x, w) -> x.text(w)), v, 8, before);
            throwsAndChangesNothing(new WrongCall("wit", INDEX, (x, w) -> x.wit(w)), v, 8, before);
            throwsAndChangesNothing(new WrongCall("wouldTell", INDEX, (x, w) -> x.wouldTell(w)), v, 8, before);
        }
    }

    /** «Throws IllegalStateException if it is not TRUE in REAL» */
    private static void toldAloudWhatIsNotTrue() {
        NightdeskRota x = nightWith(8);
        int not = x.say(1, 3, 0);
        int nobodyKnows = x.say(5, 63, 4);
        String before = traceOf(x);
        for (int s : new int[] {not, nobodyKnows}) {
            NightdeskRota y = nightWith(8);
            y.say(1, 3, 0);
            y.say(5, 63, 4);
            CHECKS.refused("aloud(" + s + ") that is not TRUE in REAL", STATE, () -> y.aloud(s));
            CHECKS.same("the state behind aloud(" + s + ")", traceOf(y), before);
        }
    }

    /** «Throws IllegalArgumentException if both are the same» */
    private static void aNoteToItself() {
        String before = traceOf(nightWith(8));
        for (int guard = 0; guard <= 5; guard++) {
            throwsAndChangesNothing(new WrongCall("note to itself", ARGUMENT, (x, v) -> x.note(v, v)), guard, 8, before);
        }
    }
}
