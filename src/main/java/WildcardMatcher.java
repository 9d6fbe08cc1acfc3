public final class WildcardMatcher {
    public static final int FULL = -1;
    public static final int BAD = -2;
    public static final int NONE = -3;

    private static final int TEXT_CAPACITY = 40;
    private static final int PATTERN_CAPACITY = 12;
    private static final int WILDCARD = 0;
    private static final int GREATEST_LETTER = 4;

    private final int[] textLetters = new int[TEXT_CAPACITY];
    private final int[] patternLetters = new int[PATTERN_CAPACITY];
    private int textLength;
    private int patternLength;

    public WildcardMatcher() {
        textLength = 0;
        patternLength = 0;
    }

    public int type(boolean pattern, int letter) {
        int end = lengthOf(pattern);
        int capacity = pattern ? PATTERN_CAPACITY : TEXT_CAPACITY;
        if (end >= capacity) {
            return FULL;
        }
        if (!isLetter(letter)) {
            return BAD;
        }
        put(pattern, end, letter);
        setLength(pattern, end + 1);
        return end + 1;
    }

    public boolean replace(boolean pattern, int i, int letter) {
        if (!hasPlace(pattern, i) || !isLetter(letter)) {
            return false;
        }
        put(pattern, i, letter);
        return true;
    }

    public int shorten(boolean pattern) {
        int before = lengthOf(pattern);
        if (before == 0) {
            return BAD;
        }
        for (int i = 1; i < before; i++) {
            int moved = get(pattern, i);
            put(pattern, i - 1, moved);
        }
        setLength(pattern, before - 1);
        return before - 1;
    }

    public int letter(boolean pattern, int i) {
        return hasPlace(pattern, i) ? get(pattern, i) : BAD;
    }

    public int length(boolean pattern) {
        return lengthOf(pattern);
    }

    public boolean matches(int i) {
        return isShift(i) && countFrom(i) == 0;
    }

    public int matchCount() {
        return countAtMost(0);
    }

    public int nextMatch(int from) {
        int shifts = shiftCount();
        int first = from < 0 ? 0 : from;
        for (int i = first; i < shifts; i++) {
            if (countFrom(i) == 0) {
                return i;
            }
        }
        return NONE;
    }

    public int mismatches(int i) {
        return isShift(i) ? countFrom(i) : BAD;
    }

    public int bestShift() {
        int shifts = shiftCount();
        int best = NONE;
        int fewest = PATTERN_CAPACITY + 1;
        for (int i = 0; i < shifts; i++) {
            int count = countFrom(i);
            if (count < fewest) {
                fewest = count;
                best = i;
            }
        }
        return best;
    }

    public int within(int k) {
        return countAtMost(k);
    }

    public int turnedMismatches(int i) {
        return isTurnedShift(i) ? countFrom(i) : BAD;
    }

    private int lengthOf(boolean pattern) {
        return pattern ? patternLength : textLength;
    }

    private void setLength(boolean pattern, int newLength) {
        if (pattern) {
            patternLength = newLength;
        } else {
            textLength = newLength;
        }
    }

    private int get(boolean pattern, int i) {
        return pattern ? patternLetters[i] : textLetters[i];
    }

    private void put(boolean pattern, int i, int letter) {
        if (pattern) {
            patternLetters[i] = letter;
        } else {
            textLetters[i] = letter;
        }
    }

    private boolean hasPlace(boolean pattern, int i) {
        return i >= 0 && i < lengthOf(pattern);
    }

    private static boolean isLetter(int letter) {
        return letter >= WILDCARD && letter <= GREATEST_LETTER;
    }

    private static boolean agree(int a, int b) {
        return a == b || a == WILDCARD || b == WILDCARD;
    }

    private int shiftCount() {
        return patternLength > textLength ? 0 : textLength - patternLength + 1;
    }

    private boolean isShift(int i) {
        return i >= 0 && i < shiftCount();
    }

    private boolean isTurnedShift(int i) {
        return i >= 0 && i < textLength && patternLength <= textLength;
    }

    private int countAtMost(int k) {
        int shifts = shiftCount();
        int found = 0;
        for (int i = 0; i < shifts; i++) {
            if (countFrom(i) <= k) {
                found++;
            }
        }
        return found;
    }

    // Serves shifts and turned shifts alike: a shift never runs past the end of the text, so for it nothing wraps.
    // One subtraction is enough to wrap, because the pattern is never longer than the text when this is called.
    private int countFrom(int start) {
        int count = 0;
        for (int j = 0; j < patternLength; j++) {
            int place = start + j;
            if (place >= textLength) {
                place -= textLength;
            }
            if (!agree(textLetters[place], patternLetters[j])) {
                count++;
            }
        }
        return count;
    }
}
