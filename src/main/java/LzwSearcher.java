/**
 * A text of at most 120 letters (0 to 3) that is kept compressed, and searches in it.
 *
 * The compression is LZW. The text is cut into phrases, and a phrase is known by its number:
 * 0 to 3 are the single letters, and 4 + i is the i-th phrase of the text lengthened by the
 * letter that follows it. So one table is both the dictionary and the compressed text:
 * shorter[4 + i] is what phrase 4 + i lengthens, and that is the text's i-th phrase.
 */
public final class LzwSearcher {
    public static final int BAD_LETTER = -1;
    public static final int FULL = -2;
    public static final int BAD_PLACE = -3;
    public static final int NONE = -4;

    private static final int LETTERS = 4;
    private static final int TEXT_LIMIT = 120;
    private static final int PATTERN_LIMIT = 10;
    // Each closed phrase holds a letter of the text at least, so there are never more of them.
    private static final int PHRASE_LIMIT = LETTERS + TEXT_LIMIT;
    private static final int NO_PHRASE = -1;

    private final int[] shorter = new int[PHRASE_LIMIT];
    private final int[] lastLetter = new int[PHRASE_LIMIT];
    private final int[] phraseLength = new int[PHRASE_LIMIT];
    private final int[] patternLetters = new int[PATTERN_LIMIT];
    private int phrases;
    // The text's last phrase stays open, as the letters to come may still lengthen it.
    private int openPhrase;
    private int textLength;
    private int patternLength;

    public LzwSearcher() {
        for (int letter = 0; letter < LETTERS; letter++) {
            lastLetter[letter] = letter;
            phraseLength[letter] = 1;
        }
        phrases = LETTERS;
    }

    public int append(int letter) {
        if (!isLetter(letter)) {
            return BAD_LETTER;
        }
        if (textLength >= TEXT_LIMIT) {
            return FULL;
        }
        addToText(letter);
        return textLength;
    }

    public int repeat(int from, int n) {
        if (!isInText(from)) {
            return BAD_PLACE;
        }
        // Not textLength + n, which wraps around for a great n.
        if (n > TEXT_LIMIT - textLength) {
            return FULL;
        }
        for (int i = 0; i < n; i++) {
            int letter = textLetter(from + i);
            addToText(letter);
        }
        return textLength;
    }

    public void clear() {
        phrases = LETTERS;
        textLength = 0;
    }

    public int pattern(int letter) {
        if (!isLetter(letter)) {
            return BAD_LETTER;
        }
        if (patternLength >= PATTERN_LIMIT) {
            return FULL;
        }
        patternLetters[patternLength] = letter;
        patternLength++;
        return patternLength;
    }

    public void clearPattern() {
        patternLength = 0;
    }

    public int length() {
        return textLength;
    }

    public int letterAt(int index) {
        if (!isInText(index)) {
            return NONE;
        }
        return textLetter(index);
    }

    public int count() {
        return occurrencesUpTo(textLength);
    }

    public int position(int n) {
        if (patternLength == 0) {
            return NONE;
        }
        int found = 0;
        for (int index = 0; index <= textLength - patternLength; index++) {
            if (patternStartsAt(index, patternLength)) {
                if (found == n) {
                    return index;
                }
                found++;
            }
        }
        return NONE;
    }

    public int frequency(int letter, int n) {
        if (!isLetter(letter)) {
            return BAD_LETTER;
        }
        int end = withinText(n);
        int found = 0;
        for (int index = 0; index < end; index++) {
            if (textLetter(index) == letter) {
                found++;
            }
        }
        return found;
    }

    public int overlap() {
        int longest = patternLength < textLength ? patternLength : textLength;
        for (int k = longest; k > 0; k--) {
            if (patternStartsAt(textLength - k, k)) {
                return k;
            }
        }
        return 0;
    }

    public int countWithin(int n) {
        int end = withinText(n);
        return occurrencesUpTo(end);
    }

    private static boolean isLetter(int letter) {
        return letter >= 0 && letter < LETTERS;
    }

    private boolean isInText(int index) {
        return index >= 0 && index < textLength;
    }

    private int withinText(int n) {
        if (n < 0) {
            return 0;
        }
        return n < textLength ? n : textLength;
    }

    private int occurrencesUpTo(int end) {
        // The empty pattern would match at every index, but it occurs nowhere.
        if (patternLength == 0) {
            return 0;
        }
        int found = 0;
        for (int index = 0; index <= end - patternLength; index++) {
            if (patternStartsAt(index, patternLength)) {
                found++;
            }
        }
        return found;
    }

    /** Whether the pattern's first k letters stand in the text at index; they must all fit in it. */
    private boolean patternStartsAt(int index, int k) {
        for (int i = 0; i < k; i++) {
            if (textLetter(index + i) != patternLetters[i]) {
                return false;
            }
        }
        return true;
    }

    /** Takes an index of the text alone. */
    private int textLetter(int index) {
        int start = 0;
        for (int i = LETTERS; i < phrases; i++) {
            int end = start + phraseLength[shorter[i]];
            if (index < end) {
                return phraseLetter(shorter[i], index - start);
            }
            start = end;
        }
        return phraseLetter(openPhrase, index - start);
    }

    private int phraseLetter(int phrase, int offset) {
        // A phrase tells its last letter only: the ones before are those of shorter phrases.
        int prefix = phrase;
        for (int i = phraseLength[phrase] - 1; i > offset; i--) {
            prefix = shorter[prefix];
        }
        return lastLetter[prefix];
    }

    /** The caller has seen that the text is not full. */
    private void addToText(int letter) {
        int longer = textLength == 0 ? letter : longerPhrase(openPhrase, letter);
        if (longer == NO_PHRASE) {
            closeOpenPhrase(letter);
            longer = letter;
        }
        openPhrase = longer;
        textLength++;
    }

    private int longerPhrase(int phrase, int letter) {
        for (int i = LETTERS; i < phrases; i++) {
            if (shorter[i] == phrase && lastLetter[i] == letter) {
                return i;
            }
        }
        return NO_PHRASE;
    }

    private void closeOpenPhrase(int nextLetter) {
        shorter[phrases] = openPhrase;
        lastLetter[phrases] = nextLetter;
        phraseLength[phrases] = phraseLength[openPhrase] + 1;
        phrases++;
    }
}
