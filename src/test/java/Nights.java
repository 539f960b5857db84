/** Nights that several tests start from, and the sets of the worlds in which a fact is so. */
final class Nights {
    static final long P0 = 0xAAAAAAAAAAAAAAAAL;
    static final long P1 = 0xCCCCCCCCCCCCCCCCL;
    static final long P2 = 0xF0F0F0F0F0F0F0F0L;
    static final long P3 = 0xFF00FF00FF00FF00L;
    static final long P4 = 0xFFFF0000FFFF0000L;
    static final long P5 = 0xFFFFFFFF00000000L;
    static final long ALL_WORLDS = -1L;

    /** The last sentence of withRing. */
    static final int ANY_FACT = 30;

    /** Of withEmptyAndFull: a sentence that is TRUE nowhere, everywhere, and in the WORLD 63 alone. */
    static final int EMPTY = 7;
    static final int FULL = 8;
    static final int ONLY_63 = 13;

    private Nights() {
    }

    /** A night with the sentences 0 to 5: the facts 0 to 5. */
    static NightdeskRota withFacts(int real) {
        NightdeskRota x = new NightdeskRota();
        x.begin(real);
        for (int fact = 0; fact < 6; fact++) {
            x.say(0, fact, 0);
        }
        return x;
    }

    /** Behind the facts -p0, p0&-p0 (EMPTY), p0|-p0 (FULL), and p0&p1 .. up to all six facts (ONLY_63). */
    static NightdeskRota withEmptyAndFull(int real) {
        NightdeskRota x = withFacts(real);
        int not = x.say(1, 0, 0);
        x.say(2, 0, not);
        int last = x.say(3, 0, not);
        for (int fact = 1; fact < 6; fact++) {
            last = x.say(2, fact == 1 ? 0 : last, fact);
        }
        return x;
    }

    /** 40 sentences, all of them TRUE in the WORLD 63 and none in the WORLD 0; 10 is TRUE in the WORLD 63 alone. */
    static NightdeskRota withForty(int real) {
        NightdeskRota x = withFacts(real);
        int last = 0;
        for (int fact = 1; fact < 6; fact++) {
            last = x.say(2, last, fact);
        }
        while (last < 39) {
            last = x.say(3, last, last - 6);
        }
        return x;
    }

    /** Guards 0, 1, 2 see the facts 0, 1, 2 but each its own; 6 and 7: one of them is so. */
    static NightdeskRota withHats(int real) {
        NightdeskRota x = withFacts(real);
        for (int guard = 0; guard < 3; guard++) {
            for (int fact = 0; fact < 3; fact++) {
                if (guard != fact) {
                    x.look(guard, fact);
                }
            }
        }
        x.say(3, 0, 1);
        x.say(3, 6, 2);
        return x;
    }

    /**
     * Guard 0 cannot tell 0 from 1, 2 from 3, .. 62 from 63; guard 1 cannot tell 1 from 2, .. 61 from 62,
     * 63 from 0. Returns the night; sentence ANY_FACT is that any fact is so (all worlds but 0).
     */
    static NightdeskRota withRing(int real) {
        NightdeskRota x = withFacts(real);
        int carry = 0;
        for (int fact = 1; fact < 6; fact++) {
            x.look(0, fact);
            int either = x.say(3, fact, carry);
            int both = x.say(2, fact, carry);
            int notBoth = x.say(1, both, 0);
            x.whisper(1, x.say(2, either, notBoth));
            carry = both;
        }
        int any = 0;
        for (int fact = 1; fact < 6; fact++) {
            any = x.say(3, any, fact);
        }
        if (any != ANY_FACT) {
            throw new IllegalStateException("ANY_FACT is " + any);
        }
        return x;
    }
}
