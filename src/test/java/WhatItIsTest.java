/** What it is: how long the text may be, what its letters are, and how long an object is used. */
public final class WhatItIsTest {
    private static final int CALLS = 512;

    public static void main(String[] args) {
        Due.test("A text of at most 120 letters", WhatItIsTest::atMost120Letters);
        Due.test("letters (0 to 3)", WhatItIsTest::letters0To3);
        Due.test("at most 512 calls: a text that is filled over and over", WhatItIsTest::filledOverAndOver);
        Due.test("at most 512 calls: a text that stays full", WhatItIsTest::staysFull);
        Due.test("at most 512 calls: a pattern that is filled over and over", WhatItIsTest::patternOverAndOver);
        Due.test("at most 512 calls: questions", WhatItIsTest::questions);
        Due.test("what later calls answer is free (but LANGUAGE.md, rule 7: none throws)", WhatItIsTest::laterCalls);
        Due.end();
    }

    /** The text is filled by k calls of append and one of repeat, for each k. */
    private static void atMost120Letters() {
        for (int k = 1; k <= 120; k++) {
            String start = Searchers.mixed(k);
            LzwSearcher x = Searchers.with(start, "");
            Due.same(start + ": repeat(0, " + (120 - k) + ")", x.repeat(0, 120 - k), 120);
            Due.same("full: append(0)", x.append(0), LzwSearcher.FULL);
            Due.same("full: repeat(0, 1)", x.repeat(0, 1), LzwSearcher.FULL);
            Due.same("full: length()", x.length(), 120);
            Due.same("full: the text", Searchers.textOf(x), start.repeat(120).substring(0, 120));
        }
    }

    private static void letters0To3() {
        for (int letter = -300; letter <= 300; letter++) {
            LzwSearcher x = new LzwSearcher();
            boolean taken = letter >= 0 && letter <= 3;
            Due.same("append(" + letter + ")", x.append(letter), taken ? 1 : LzwSearcher.BAD_LETTER);
            Due.same("pattern(" + letter + ")", x.pattern(letter), taken ? 1 : LzwSearcher.BAD_LETTER);
            Due.same("letterAt(0)", x.letterAt(0), taken ? letter : LzwSearcher.NONE);
            Due.same("frequency(" + letter + ", 1)", x.frequency(letter, 1), taken ? 1 : LzwSearcher.BAD_LETTER);
        }
    }

    private static void filledOverAndOver() {
        LzwSearcher x = new LzwSearcher();
        String text = Searchers.mixed(120);
        for (int call = 0; call < CALLS - 1; call++) {
            int at = call % 121;
            if (at == 120) {
                x.clear();
            } else {
                Due.same("call " + call + ": append", x.append(text.charAt(at) - '0'), at + 1);
            }
        }
        Due.same("the last call: length()", x.length(), (CALLS - 1) % 121);
        LzwSearcher y = new LzwSearcher();
        for (int call = 0; call < CALLS - 2; call += 3) {
            Due.same("call " + call + ": append(1)", y.append(1), 1);
            Due.same("the call after: repeat(0, 119)", y.repeat(0, 119), 120);
            y.clear();
        }
        Due.same("the last but one: append(2)", y.append(2), 1);
        Due.same("the last call: letterAt(0)", y.letterAt(0), 2);
    }

    private static void staysFull() {
        LzwSearcher x = new LzwSearcher();
        for (int call = 0; call < CALLS - 1; call++) {
            Due.same("call " + call + ": append(3)", x.append(3), call < 120 ? call + 1 : LzwSearcher.FULL);
        }
        Due.same("the last call: frequency(3, 120)", x.frequency(3, 120), 120);
    }

    private static void patternOverAndOver() {
        LzwSearcher x = Searchers.with("3210321032", "");
        String pattern = "3210321032";
        for (int call = 10; call < CALLS - 1; call++) {
            int at = (call - 10) % 12;
            if (at == 11) {
                x.clearPattern();
            } else if (at == 10) {
                Due.same("call " + call + ": pattern(0)", x.pattern(0), LzwSearcher.FULL);
            } else {
                Due.same("call " + call + ": pattern", x.pattern(pattern.charAt(at) - '0'), at + 1);
            }
        }
        // The 501 calls before it were 41 rounds of twelve, and nine letters.
        Due.same("the last call: countWithin(9)", x.countWithin(9), 1);
    }

    private static void questions() {
        LzwSearcher x = Searchers.with("00100", "0");
        for (int call = 6; call < CALLS; call += 2) {
            Due.same("call " + call + ": count()", x.count(), 4);
            Due.same("the call after: position(2)", x.position(2), 3);
        }
    }

    private static void laterCalls() {
        LzwSearcher x = new LzwSearcher();
        for (int round = 0; round < CALLS; round++) {
            x.append(round % 5);
            x.repeat(round % 7, round % 11);
            x.pattern(round / 3 % 5);
            x.length();
            x.letterAt(round % 122);
            x.count();
            x.position(round % 6);
            x.frequency(round % 5, round % 122);
            x.overlap();
            x.countWithin(round % 122);
            if (round % 90 == 89) {
                x.clear();
            }
            if (round % 50 == 49) {
                x.clearPattern();
            }
        }
    }
}
