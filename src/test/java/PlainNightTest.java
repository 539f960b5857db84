/**
 * Long runs of calls, drawn by a fixed row of numbers, on the program and on PlainNight:
 * both must give the same answers and throw the same exceptions.
 */
final class PlainNightTest {
    private static final int RUNS = 240;
    private static final int MOST_CALLS = 60;

    private final Checks checks = new Checks("PlainNightTest");
    private long drawn;
    private NightdeskRota rota;
    private PlainNight plain;
    private int sentences;
    private int guardsInUse;

    public static void main(String[] args) {
        PlainNightTest test = new PlainNightTest();
        for (int run = 0; run < RUNS; run++) {
            test.run(run);
        }
        test.checks.ended();
    }

    private int draw(int below) {
        drawn = drawn * 6364136223846793005L + 1442695040888963407L;
        return (int) ((drawn >>> 33) % below);
    }

    private void run(int run) {
        drawn = 77L * run + 5;
        rota = new NightdeskRota();
        plain = new PlainNight();
        sentences = 0;
        guardsInUse = 2 + draw(5);
        int wrongOnes = draw(4) == 0 ? 8 : 60;
        String at = "run " + run + " ahead: ";
        say(at, 0, draw(6), 0);
        switch (run % 4) {
            case 0: break;
            case 1: eachSeesSome(at); break;
            case 2: eachSeesTheOthers(at); break;
            default: ring(at);
        }
        int calls = draw(2) * draw(MOST_CALLS);
        for (int call = 0; call < calls; call++) {
            boolean wrong = draw(wrongOnes) == 0;
            step("run " + run + " call " + call + ": ", wrong);
        }
        sweep("run " + run + " at its end: ");
    }

    /** Few of the drawn calls hit what is rare (a depth, a round): so all sentences are asked at the end. */
    private void sweep(String at) {
        for (int sentence = 0; sentence < sentences; sentence++) {
            int s = sentence;
            for (int often = 0; often < 3; often++) {
                int guards = drawSet(false);
                int guard = draw(guardsInUse);
                pair(at + "depth(" + guards + ", " + s + ")", () -> rota.depth(guards, s), () -> plain.depth(guards, s));
                pair(at + "rounds(" + guards + ", " + s + ")", () -> rota.rounds(guards, s), () -> plain.rounds(guards, s));
                pair(at + "bestNote(" + guard + ", " + s + ")", () -> rota.bestNote(guard, s), () -> plain.bestNote(guard, s));
            }
            pair(at + "wouldTell(" + s + ")", () -> rota.wouldTell(s), () -> plain.wouldTell(s));
            pair(at + "text(" + s + ")", () -> rota.text(s), () -> plain.text(s));
        }
        for (int often = 0; often < 4; often++) {
            int guard = draw(guardsInUse);
            int s = draw(sentences);
            pair(at + "notes(" + guard + ", " + s + ")", () -> rota.notes(guard, s), () -> plain.notes(guard, s));
        }
        pair(at + "digest()", () -> rota.digest(), () -> plain.digest());
    }

    private void eachSeesSome(String at) {
        int real = begin(at);
        for (int guard = 0; guard < guardsInUse; guard++) {
            for (int often = draw(3); often > 0; often--) {
                look(at, guard, draw(6));
            }
        }
        int[] so = new int[6];
        for (int fact = 0; fact < 6; fact++) {
            int said = say(at, 0, fact, 0);
            so[fact] = (real >> fact & 1) != 0 ? said : say(at, 1, said, 0);
        }
        for (int often = 0; often < 4; often++) {
            int two = say(at, 2, so[draw(6)], so[draw(6)]);
            int three = say(at, 2, two, so[draw(6)]);
            say(at, 4, draw(guardsInUse), three);
        }
    }

    private void eachSeesTheOthers(String at) {
        begin(at);
        int firstFact = sentences;
        for (int fact = 0; fact < guardsInUse; fact++) {
            say(at, 0, fact, 0);
            for (int guard = 0; guard < guardsInUse; guard++) {
                if (guard != fact) {
                    look(at, guard, fact);
                }
            }
        }
        int any = orOf(at, firstFact, guardsInUse);
        int firstKnows = sentences;
        for (int guard = 0; guard < guardsInUse; guard++) {
            say(at, 4, guard, firstFact + guard);
        }
        orOf(at, firstKnows, guardsInUse);
        if (draw(2) == 0) {
            pair(at + "aloud(" + any + ")", () -> rota.aloud(any), () -> plain.aloud(any));
        }
    }

    /** Guard 0 cannot tell 0 from 1, 2 from 3 ..; guard 1 cannot tell 1 from 2, 3 from 4 ..: ways of 64 worlds. */
    private void ring(String at) {
        begin(at);
        guardsInUse = 2 + draw(2);
        int parity = sentences;
        for (int fact = 0; fact < 6; fact++) {
            say(at, 0, fact, 0);
        }
        for (int fact = 1; fact < 6; fact++) {
            look(at, 0, fact);
        }
        int carry = parity;
        for (int fact = 1; fact < 6; fact++) {
            int either = say(at, 3, parity + fact, carry);
            int both = say(at, 2, parity + fact, carry);
            int one = say(at, 2, either, say(at, 1, both, 0));
            pair(at + "whisper(1, " + one + ")", () -> rota.whisper(1, one), () -> plain.whisper(1, one));
            carry = both;
        }
        int noParity = say(at, 1, parity, 0);
        int left = say(at, 3, say(at, 4, 0, parity), say(at, 4, 0, noParity));
        int right = say(at, 3, say(at, 4, 1, parity), say(at, 4, 1, noParity));
        say(at, 3, left, right);
        if (draw(2) == 0) {
            int cut = say(at, 1, carry, 0);
            pair(at + "aloud(" + cut + ")", () -> rota.aloud(cut), () -> plain.aloud(cut));
        }
    }

    private int begin(String at) {
        int real = draw(64);
        pair(at + "begin(" + real + ")", () -> rota.begin(real), () -> plain.begin(real));
        return real;
    }

    private void look(String at, int guard, int fact) {
        pair(at + "look(" + guard + ", " + fact + ")", () -> rota.look(guard, fact), () -> plain.look(guard, fact));
    }

    private int say(String at, int kind, int a, int b) {
        Object got = Checks.outcome(() -> rota.say(kind, a, b));
        checks.same(at + "say(" + kind + ", " + a + ", " + b + ")", got, Checks.outcome(() -> plain.say(kind, a, b)));
        sentences += got instanceof Integer ? 1 : 0;
        return sentences - 1;
    }

    private int orOf(String at, int first, int many) {
        int all = first;
        for (int s = first + 1; s < first + many; s++) {
            all = say(at, 3, all, s);
        }
        return all;
    }

    private void pair(String what, Checks.Call ofRota, Checks.Call ofPlain) {
        checks.same(what, Checks.outcome(ofRota), Checks.outcome(ofPlain));
    }

    /** A number that is mostly right, and sometimes just beside what is right. */
    private int draw(int below, boolean wrong) {
        return wrong && draw(2) == 0 ? (draw(2) == 0 ? -1 - draw(3) : below + draw(2)) : draw(below < 1 ? 1 : below);
    }

    private int drawSet(boolean wrong) {
        return wrong && draw(2) == 0 ? (draw(2) == 0 ? 0 : 64) : 1 + draw((1 << guardsInUse) - 1);
    }

    private void step(String at, boolean wrong) {
        if (sentences < 4 || draw(4) == 0) {
            sayAny(at, wrong);
        } else if (draw(2) == 0) {
            change(at, wrong);
        } else {
            question(at, wrong);
        }
    }

    private void sayAny(String at, boolean wrong) {
        int kind = sentences < 3 ? 0 : draw(8, wrong);
        int b = draw(sentences, wrong);
        int a = kind == 0 ? draw(6, wrong)
                : kind <= 3 ? draw(sentences, wrong)
                : kind == 4 ? draw(guardsInUse, wrong) : drawSet(wrong);
        say(at, kind, a, b);
    }

    private void change(String at, boolean wrong) {
        int s = draw(sentences, wrong);
        int guard = draw(wrong ? 6 : guardsInUse, wrong);
        int fact = draw(6, wrong);
        int guards = drawSet(wrong);
        switch (draw(8) == 0 ? 0 : draw(16)) {
            case 0:
                if (draw(4) != 0) {
                    break;
                }
                int real = draw(64, wrong);
                pair(at + "begin(" + real + ")", () -> rota.begin(real), () -> plain.begin(real));
                break;
            case 1:
            case 2:
            case 3:
            case 4:
                pair(at + "look(" + guard + ", " + fact + ")", () -> rota.look(guard, fact), () -> plain.look(guard, fact));
                break;
            case 5:
            case 6:
                pair(at + "aloud(" + s + ")", () -> rota.aloud(s), () -> plain.aloud(s));
                break;
            case 7:
            case 8:
                pair(at + "whisper(" + guard + ", " + s + ")", () -> rota.whisper(guard, s), () -> plain.whisper(guard, s));
                break;
            case 9:
                int to = draw(wrong ? 6 : guardsInUse, wrong);
                pair(at + "note(" + guard + ", " + to + ")", () -> rota.note(guard, to), () -> plain.note(guard, to));
                break;
            case 10:
            case 11:
            case 12:
                pair(at + "ask(" + guards + ", " + s + ")", () -> rota.ask(guards, s), () -> plain.ask(guards, s));
                break;
            case 13:
            case 14:
                pair(at + "flip(" + fact + ")", () -> rota.flip(fact), () -> plain.flip(fact));
                break;
            default:
                pair(at + "call()", () -> rota.call(), () -> plain.call());
        }
    }

    private void question(String at, boolean wrong) {
        int s = draw(sentences, wrong);
        int guard = draw(6, wrong);
        int world = draw(64, wrong);
        int guards = drawSet(wrong);
        int ofSentence = draw(10, wrong);
        int ofGuard = draw(5, wrong);
        int ofNight = draw(13, wrong);
        switch (draw(16)) {
            case 0: pair(at + "isTrue(" + s + ", " + world + ")", () -> rota.isTrue(s, world), () -> plain.isTrue(s, world)); break;
            case 1: pair(at + "truth(" + s + ")", () -> rota.truth(s), () -> plain.truth(s)); break;
            case 2: pair(at + "of(" + s + ", " + ofSentence + ")", () -> rota.of(s, ofSentence), () -> plain.of(s, ofSentence)); break;
            case 3: pair(at + "alike(" + guard + ", " + world + ")", () -> rota.alike(guard, world), () -> plain.alike(guard, world)); break;
            case 4: pair(at + "ofGuard(" + guard + ", " + ofGuard + ")", () -> rota.ofGuard(guard, ofGuard), () -> plain.ofGuard(guard, ofGuard)); break;
            case 5: pair(at + "depth(" + guards + ", " + s + ")", () -> rota.depth(guards, s), () -> plain.depth(guards, s)); break;
            case 6: pair(at + "night(" + ofNight + ")", () -> rota.night(ofNight), () -> plain.night(ofNight)); break;
            case 7: pair(at + "possible()", () -> rota.possible(), () -> plain.possible()); break;
            case 8: pair(at + "text(" + s + ")", () -> rota.text(s), () -> plain.text(s)); break;
            case 9: pair(at + "wit(" + guard + ")", () -> rota.wit(guard), () -> plain.wit(guard)); break;
            case 10: pair(at + "notes(" + guard + ", " + s + ")", () -> rota.notes(guard, s), () -> plain.notes(guard, s)); break;
            case 11: pair(at + "rounds(" + guards + ", " + s + ")", () -> rota.rounds(guards, s), () -> plain.rounds(guards, s)); break;
            case 12: pair(at + "wouldTell(" + s + ")", () -> rota.wouldTell(s), () -> plain.wouldTell(s)); break;
            case 13: pair(at + "bestNote(" + guard + ", " + s + ")", () -> rota.bestNote(guard, s), () -> plain.bestNote(guard, s)); break;
            case 14: pair(at + "isSound()", () -> rota.isSound(), () -> plain.isSound()); break;
            default: pair(at + "digest()", () -> rota.digest(), () -> plain.digest());
        }
    }
}
