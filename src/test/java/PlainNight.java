import java.util.ArrayList;
import java.util.Arrays;
import java.util.List;

/**
 * The document once more, word by word and without any cleverness: every two worlds are held apart,
 * every sentence is asked in every world. The program is measured against it.
 */
final class PlainNight {
    private final List<int[]> sentences;
    private int real;
    private boolean[] possible = new boolean[64];
    private boolean[][][] apart = new boolean[6][64][64];
    private Boolean[][] known = new Boolean[40][64];
    private int[] told = new int[6];
    private int refused;

    PlainNight() {
        sentences = new ArrayList<>();
        Arrays.fill(possible, true);
    }

    private PlainNight(PlainNight other) {
        sentences = other.sentences;
        real = other.real;
        possible = other.possible.clone();
        apart = other.apart.clone();
    }

    private static IndexOutOfBoundsException index() {
        return new IndexOutOfBoundsException();
    }

    private static void wantGuard(int guard) {
        if (guard < 0 || guard > 5) {
            throw index();
        }
    }

    private void wantSentence(int sentence) {
        if (sentence < 0 || sentence >= sentences.size()) {
            throw index();
        }
    }

    private static void wantSet(int guards) {
        if (guards < 1 || guards > 63) {
            throw new IllegalArgumentException();
        }
    }

    private void changed() {
        known = new Boolean[40][64];
    }

    private static boolean in(int set, int member) {
        return (set & (1 << member)) != 0;
    }

    int begin(int world) {
        if (world < 0 || world > 63) {
            throw new IllegalArgumentException();
        }
        real = world;
        Arrays.fill(possible, true);
        apart = new boolean[6][64][64];
        changed();
        return night(3);
    }

    int say(int kind, int a, int b) {
        int n = sentences.size();
        boolean sentenceA = a >= 0 && a < n;
        boolean sentenceB = b >= 0 && b < n;
        boolean right;
        if (kind == 0) {
            right = a >= 0 && a <= 5;
        } else if (kind == 1) {
            right = sentenceA;
        } else if (kind == 2 || kind == 3) {
            right = sentenceA && sentenceB;
        } else if (kind == 4) {
            right = a >= 0 && a <= 5 && sentenceB;
        } else {
            right = kind >= 5 && kind <= 7 && a >= 1 && a <= 63 && sentenceB;
        }
        if (!right) {
            throw new IllegalArgumentException();
        }
        if (n == 40) {
            throw new IllegalStateException();
        }
        sentences.add(new int[] {kind, a, b});
        return n;
    }

    int look(int guard, int fact) {
        wantGuard(guard);
        wantGuard(fact);
        for (int v = 0; v < 64; v++) {
            for (int w = 0; w < 64; w++) {
                apart[guard][v][w] |= in(v, fact) != in(w, fact);
            }
        }
        told[4]++;
        changed();
        return countAlike(guard);
    }

    int aloud(int sentence) {
        wantSentence(sentence);
        if (!holds(sentence, real)) {
            throw new IllegalStateException();
        }
        told[0]++;
        tell(sentence);
        return night(1);
    }

    private void tell(int sentence) {
        boolean[] left = new boolean[64];
        for (int w = 0; w < 64; w++) {
            left[w] = holds(sentence, w);
        }
        possible = left;
        changed();
    }

    boolean whisper(int guard, int sentence) {
        wantGuard(guard);
        wantSentence(sentence);
        boolean was = holds(sentence, real);
        for (int v = 0; v < 64; v++) {
            for (int w = 0; w < 64; w++) {
                apart[guard][v][w] |= holds(sentence, v) != holds(sentence, w);
            }
        }
        told[1]++;
        changed();
        return was;
    }

    int note(int from, int to) {
        wantGuard(from);
        wantGuard(to);
        if (from == to) {
            throw new IllegalArgumentException();
        }
        pass(from, to);
        told[2]++;
        return countAlike(to);
    }

    private void pass(int from, int to) {
        boolean[][] then = new boolean[64][64];
        for (int v = 0; v < 64; v++) {
            for (int w = 0; w < 64; w++) {
                then[v][w] = apart[to][v][w] || apart[from][v][w];
            }
        }
        apart[to] = then;
        changed();
    }

    int ask(int guards, int sentence) {
        wantSentence(sentence);
        wantSet(guards);
        int said = 0;
        for (int guard = 0; guard < 6; guard++) {
            if (in(guards, guard) && knows(guard, sentence, real)) {
                said |= 1 << guard;
            }
        }
        hear(guards, sentence);
        told[3]++;
        return said;
    }

    private void hear(int guards, int sentence) {
        boolean[] left = new boolean[64];
        for (int w = 0; w < 64; w++) {
            left[w] = possible[w];
            for (int guard = 0; guard < 6; guard++) {
                if (in(guards, guard) && knows(guard, sentence, w) != knows(guard, sentence, real)) {
                    left[w] = false;
                }
            }
        }
        possible = left;
        changed();
    }

    int flip(int fact) {
        wantGuard(fact);
        int by = 1 << fact;
        boolean[] then = new boolean[64];
        boolean[][][] desks = new boolean[6][64][64];
        for (int v = 0; v < 64; v++) {
            then[v ^ by] = possible[v];
            for (int w = 0; w < 64; w++) {
                for (int guard = 0; guard < 6; guard++) {
                    desks[guard][v ^ by][w ^ by] = apart[guard][v][w];
                }
            }
        }
        real ^= by;
        possible = then;
        apart = desks;
        told[5]++;
        changed();
        return real;
    }

    int call() {
        return ++refused;
    }

    private boolean looksAlike(int guard, int v, int w) {
        return possible[v] && possible[w] && !apart[guard][v][w];
    }

    private boolean knows(int guard, int sentence, int world) {
        for (int w = 0; w < 64; w++) {
            if (looksAlike(guard, world, w) && !holds(sentence, w)) {
                return false;
            }
        }
        return true;
    }

    private boolean allKnow(int guards, int sentence, int world) {
        for (int guard = 0; guard < 6; guard++) {
            if (in(guards, guard) && !knows(guard, sentence, world)) {
                return false;
            }
        }
        return true;
    }

    private boolean isCommon(int guards, int sentence, int world) {
        boolean[] been = new boolean[64];
        List<Integer> ways = new ArrayList<>();
        been[world] = true;
        ways.add(world);
        for (int at = 0; at < ways.size(); at++) {
            int v = ways.get(at);
            if (!holds(sentence, v)) {
                return false;
            }
            for (int w = 0; w < 64; w++) {
                for (int guard = 0; guard < 6; guard++) {
                    if (in(guards, guard) && !been[w] && looksAlike(guard, v, w)) {
                        been[w] = true;
                        ways.add(w);
                    }
                }
            }
        }
        return true;
    }

    private boolean wouldKnow(int guards, int sentence, int world) {
        for (int w = 0; w < 64; w++) {
            boolean forEach = true;
            for (int guard = 0; guard < 6; guard++) {
                forEach &= !in(guards, guard) || looksAlike(guard, world, w);
            }
            if (forEach && !holds(sentence, w)) {
                return false;
            }
        }
        return true;
    }

    private boolean holds(int sentence, int world) {
        if (!possible[world]) {
            return false;
        }
        if (known[sentence][world] == null) {
            known[sentence][world] = means(sentences.get(sentence), world);
        }
        return known[sentence][world];
    }

    private boolean means(int[] s, int world) {
        switch (s[0]) {
            case 0: return in(world, s[1]);
            case 1: return !holds(s[1], world);
            case 2: return holds(s[1], world) && holds(s[2], world);
            case 3: return holds(s[1], world) || holds(s[2], world);
            case 4: return knows(s[1], s[2], world);
            case 5: return allKnow(s[1], s[2], world);
            case 6: return isCommon(s[1], s[2], world);
            default: return wouldKnow(s[1], s[2], world);
        }
    }

    boolean isTrue(int sentence, int world) {
        wantSentence(sentence);
        if (world < 0 || world > 63) {
            throw index();
        }
        return holds(sentence, world);
    }

    long truth(int sentence) {
        wantSentence(sentence);
        long set = 0;
        for (int w = 0; w < 64; w++) {
            if (holds(sentence, w)) {
                set |= 1L << w;
            }
        }
        return set;
    }

    int of(int sentence, int what) {
        wantSentence(sentence);
        int[] s = sentences.get(sentence);
        switch (what) {
            case 0:
            case 1:
            case 2: return s[what];
            case 3: return Long.bitCount(truth(sentence));
            case 4: return holds(sentence, real) ? 1 : 0;
            case 5: return Integer.bitCount(of(sentence, 6));
            case 6:
                int knowers = 0;
                for (int guard = 0; guard < 6; guard++) {
                    knowers |= knows(guard, sentence, real) ? 1 << guard : 0;
                }
                return knowers;
            case 7: return isCommon(63, sentence, real) ? 1 : 0;
            case 8: return few(sentence);
            case 9: return built(sentence);
            default: throw new IllegalArgumentException();
        }
    }

    private int few(int sentence) {
        for (int size = 1; size <= 6; size++) {
            for (int guards = 1; guards <= 63; guards++) {
                if (Integer.bitCount(guards) == size && wouldKnow(guards, sentence, real)) {
                    return guards;
                }
            }
        }
        return -1;
    }

    private int built(int sentence) {
        int[] s = sentences.get(sentence);
        if (s[0] == 0) {
            return 0;
        }
        if (s[0] == 1) {
            return 1 + built(s[1]);
        }
        if (s[0] <= 3) {
            return 1 + Math.max(built(s[1]), built(s[2]));
        }
        return 1 + built(s[2]);
    }

    long alike(int guard, int world) {
        wantGuard(guard);
        if (world < 0 || world > 63) {
            throw index();
        }
        long set = 0;
        for (int w = 0; w < 64; w++) {
            set |= looksAlike(guard, world, w) ? 1L << w : 0;
        }
        return set;
    }

    private int countAlike(int guard) {
        return Long.bitCount(alike(guard, real));
    }

    int ofGuard(int guard, int what) {
        wantGuard(guard);
        int found = 0;
        switch (what) {
            case 0:
                for (int w = 0; w < 64; w++) {
                    // A part is counted at its smallest world.
                    found += possible[w] && Long.numberOfTrailingZeros(alike(guard, w)) == w ? 1 : 0;
                }
                return found;
            case 1: return countAlike(guard);
            case 2:
                for (int fact = 0; fact < 6; fact++) {
                    found |= isSettled(guard, fact) ? 1 << fact : 0;
                }
                return found;
            case 3:
                for (int s = 0; s < sentences.size(); s++) {
                    found += knows(guard, s, real) ? 1 : 0;
                }
                return found;
            case 4:
                for (int other = 0; other < 6; other++) {
                    found |= isAsSharp(other, guard) ? 1 << other : 0;
                }
                return found;
            default: throw new IllegalArgumentException();
        }
    }

    private boolean isSettled(int guard, int fact) {
        for (int w = 0; w < 64; w++) {
            if (looksAlike(guard, real, w) && in(w, fact) != in(real, fact)) {
                return false;
            }
        }
        return true;
    }

    private boolean isAsSharp(int other, int guard) {
        for (int v = 0; v < 64; v++) {
            for (int w = 0; w < 64; w++) {
                if (possible[v] && possible[w] && apart[guard][v][w] && !apart[other][v][w]) {
                    return false;
                }
            }
        }
        return true;
    }

    int depth(int guards, int sentence) {
        wantSentence(sentence);
        wantSet(guards);
        boolean[] so = new boolean[64];
        for (int w = 0; w < 64; w++) {
            so[w] = holds(sentence, w);
        }
        int often = -1;
        while (so[real] && often < 99) {
            often++;
            boolean[] ahead = new boolean[64];
            for (int v = 0; v < 64; v++) {
                ahead[v] = possible[v];
                for (int w = 0; w < 64; w++) {
                    for (int guard = 0; guard < 6; guard++) {
                        ahead[v] &= !in(guards, guard) || !looksAlike(guard, v, w) || so[w];
                    }
                }
            }
            so = ahead;
        }
        return often;
    }

    int night(int what) {
        int count = 0;
        switch (what) {
            case 0: return real;
            case 1: return Long.bitCount(possible());
            case 2: return sentences.size();
            case 3:
                for (int s = 0; s < sentences.size(); s++) {
                    count += holds(s, real) ? 1 : 0;
                }
                return count;
            case 4:
                for (int s = 0; s < sentences.size(); s++) {
                    count += isCommon(63, s, real) ? 1 : 0;
                }
                return count;
            case 11:
                for (int guard = 5; guard >= 0; guard--) {
                    count = countAlike(guard) <= countAlike(count) ? guard : count;
                }
                return count;
            case 12: return refused;
            default:
                if (what < 5 || what > 10) {
                    throw new IllegalArgumentException();
                }
                return told[what - 5];
        }
    }

    long possible() {
        long set = 0;
        for (int w = 0; w < 64; w++) {
            set |= possible[w] ? 1L << w : 0;
        }
        return set;
    }

    String text(int sentence) {
        wantSentence(sentence);
        return built(sentence) > 6 ? "..." : signs(sentence);
    }

    private String signs(int sentence) {
        int[] s = sentences.get(sentence);
        switch (s[0]) {
            case 0: return "p" + s[1];
            case 1: return "-" + signs(s[1]);
            case 2: return "(" + signs(s[1]) + "&" + signs(s[2]) + ")";
            case 3: return "(" + signs(s[1]) + "|" + signs(s[2]) + ")";
            default: return "KECD".charAt(s[0] - 4) + "" + s[1] + ":" + signs(s[2]);
        }
    }

    double wit(int guard) {
        wantGuard(guard);
        return sentences.isEmpty() ? 0.0 : (double) ofGuard(guard, 3) / sentences.size();
    }

    int notes(int guard, int sentence) {
        wantGuard(guard);
        wantSentence(sentence);
        for (int most = 0; most <= 2; most++) {
            if (knowsBehind(most, guard, sentence)) {
                return most;
            }
        }
        return -1;
    }

    private boolean knowsBehind(int notes, int guard, int sentence) {
        if (notes == 0) {
            return knows(guard, sentence, real);
        }
        for (int from = 0; from < 6; from++) {
            for (int to = 0; to < 6; to++) {
                if (from != to && behind(from, to).knowsBehind(notes - 1, guard, sentence)) {
                    return true;
                }
            }
        }
        return false;
    }

    private PlainNight behind(int from, int to) {
        PlainNight then = new PlainNight(this);
        then.pass(from, to);
        return then;
    }

    int rounds(int guards, int sentence) {
        wantSentence(sentence);
        wantSet(guards);
        PlainNight then = new PlainNight(this);
        for (int round = 0; ; round++) {
            for (int guard = 0; guard < 6; guard++) {
                if (in(guards, guard) && then.knows(guard, sentence, real)) {
                    return round;
                }
            }
            long before = then.possible();
            then.hear(guards, sentence);
            if (then.possible() == before) {
                return -1;
            }
        }
    }

    int wouldTell(int sentence) {
        wantSentence(sentence);
        if (!holds(sentence, real)) {
            return -1;
        }
        PlainNight then = new PlainNight(this);
        then.tell(sentence);
        return then.night(3);
    }

    int bestNote(int guard, int sentence) {
        wantGuard(guard);
        wantSentence(sentence);
        int best = -1;
        int fewest = 65;
        for (int from = 0; from < 6; from++) {
            if (from != guard) {
                PlainNight then = behind(from, guard);
                if (then.knows(guard, sentence, real) && then.countAlike(guard) < fewest) {
                    fewest = then.countAlike(guard);
                    best = from;
                }
            }
        }
        return best;
    }

    boolean isSound() {
        boolean sound = possible[real];
        for (int s = 0; s < sentences.size(); s++) {
            for (int guard = 0; guard < 6; guard++) {
                sound &= isSound(guard, s);
            }
        }
        return sound;
    }

    private boolean isSound(int guard, int s) {
        int[] built = sentences.get(s);
        boolean sound = !knows(guard, s, real) || holds(s, real);
        if (built[0] == 5 || built[0] == 6) {
            sound &= !holds(s, real) || !in(built[1], guard) || knows(guard, built[2], real);
        }
        for (int guards = 1; guards <= 63; guards++) {
            sound &= !in(guards, guard) || !knows(guard, s, real) || wouldKnow(guards, s, real);
        }
        return sound;
    }

    long digest() {
        List<Long> all = new ArrayList<>();
        for (int what = 0; what <= 12; what++) {
            all.add((long) night(what));
        }
        all.add(possible());
        for (int guard = 0; guard < 6; guard++) {
            for (int what = 0; what <= 4; what++) {
                all.add((long) ofGuard(guard, what));
            }
            all.add(alike(guard, real));
        }
        int n = sentences.size();
        for (int s = 0; s < n; s++) {
            all.add(truth(s));
            for (int what = 0; what <= 9; what++) {
                all.add((long) of(s, what));
            }
            all.add((long) depth(63, s));
        }
        if (n > 0) {
            all.add((long) notes(0, n - 1));
            all.add((long) rounds(63, n - 1));
        }
        all.add((long) (64 * wit(0)));
        all.add(isSound() ? 1L : 0L);
        long d = 6121;
        for (long v : all) {
            d = d * 31 + v;
        }
        return d;
    }
}
