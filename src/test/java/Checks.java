import java.lang.reflect.Method;

// What the project's tests share: counting wrong answers, and filling an object.
// Nothing here, and no test, makes more than 512 calls on one object: what later calls answer is free.
final class Checks {
  static final int LEAST = Integer.MIN_VALUE;
  static final int GREATEST = Integer.MAX_VALUE;
  static final boolean[] SIDES = {false, true};
  // The first on each side that is no letter, the ends of int, and numbers whose lowest bits would be a letter.
  static final int[] NOT_LETTERS = {-1, 5, LEAST, GREATEST, -4, 6, 256, 257, 1 << 16, -252, LEAST + 1};

  // A broken program can give a million wrong answers; the first ones under each sentence tell enough.
  private static final int TOLD_AT_MOST = 20;

  private int wrong = 0;
  private int asked = 0;
  private int told = 0;
  private String sentence = "";

  // From here on, wrong answers are told under this sentence of the document.
  void sentence(String words) {
    sentence = "\"" + words + "\": ";
    told = 0;
  }

  void due(String call, long got, long want) {
    asked++;
    if (got != want) {
      wrong++;
      tell(call + " answered " + got + ", due is " + want);
    }
  }

  private void tell(String what) {
    if (told < TOLD_AT_MOST) {
      System.out.println(sentence + what);
    }
    told++;
  }

  void due(String call, boolean got, boolean want) {
    due(call, got ? 1L : 0L, want ? 1L : 0L);
  }

  // Looks at a whole row of letters, and that nothing stands on either side of it.
  void dueLetters(String when, WildcardMatcher x, boolean pattern, String want) {
    String name = when + (pattern ? ", pattern: " : ", text: ");
    due(name + "length", x.length(pattern), want.length());
    due(name + "letter -1", x.letter(pattern, -1), WildcardMatcher.BAD);
    for (int i = 0; i < want.length(); i++) {
      due(name + "letter " + i, x.letter(pattern, i), want.charAt(i) - '0');
    }
    due(name + "letter " + want.length(), x.letter(pattern, want.length()), WildcardMatcher.BAD);
  }

  // For after a refused call or a question: both rows are as told, and so is every answer about them.
  void dueState(String when, WildcardMatcher x, String text, String pattern) {
    dueLetters(when, x, false, text);
    dueLetters(when, x, true, pattern);
    WildcardMatcher fresh = of(text, pattern);
    due(when + ", matchCount", x.matchCount(), fresh.matchCount());
    due(when + ", bestShift", x.bestShift(), fresh.bestShift());
    for (int i = -1; i <= text.length() + 1; i++) {
      due(when + ", matches " + i, x.matches(i), fresh.matches(i));
      due(when + ", nextMatch " + i, x.nextMatch(i), fresh.nextMatch(i));
      due(when + ", mismatches " + i, x.mismatches(i), fresh.mismatches(i));
      due(when + ", turnedMismatches " + i, x.turnedMismatches(i), fresh.turnedMismatches(i));
    }
    for (int k = -1; k <= pattern.length() + 1; k++) {
      due(when + ", within " + k, x.within(k), fresh.within(k));
    }
  }

  void finish() {
    System.out.println(wrong == 0 ? "all " + asked + " answers are as due" : wrong + " answers are not as due");
    if (wrong != 0 || asked == 0) {
      System.exit(1);
    }
  }

  static void typeAll(WildcardMatcher x, boolean pattern, String letters) {
    for (int i = 0; i < letters.length(); i++) {
      x.type(pattern, letters.charAt(i) - '0');
    }
  }

  static WildcardMatcher of(String text, String pattern) {
    WildcardMatcher x = new WildcardMatcher();
    typeAll(x, false, text);
    typeAll(x, true, pattern);
    return x;
  }

  // The same rows come about in another way: each was full of wildcards before, and emptied, not only once.
  // What an object may still hold behind the end of a row agrees with every letter, and a row that is held in a ring
  // begins in its midst.
  static WildcardMatcher refilled(String text, String pattern) {
    WildcardMatcher x = new WildcardMatcher();
    for (boolean side : SIDES) {
      fillAndEmpty(x, side, capacity(side));
      fillAndEmpty(x, side, 7);
    }
    typeAll(x, false, text);
    typeAll(x, true, pattern);
    return x;
  }

  private static void fillAndEmpty(WildcardMatcher x, boolean pattern, int count) {
    typeAll(x, pattern, "0".repeat(count));
    for (int i = 0; i < count; i++) {
      x.shorten(pattern);
    }
  }

  static WildcardMatcher[] bothWays(String text, String pattern) {
    return new WildcardMatcher[] {of(text, pattern), refilled(text, pattern)};
  }

  static int capacity(boolean pattern) {
    return pattern ? 12 : 40;
  }

  // A row of that length with every letter in it, in no regular order.
  static String row(int length) {
    return "1203412304123401234021340123402134012340".substring(0, length);
  }

  // Numbers that are none of 0 to count - 1: the nearest on both sides, the ends of int, and some between.
  static int[] outside(int count) {
    return new int[] {-1, count, LEAST, GREATEST, -2, count + 1, -count - 1, 2 * count + 1, 256, 1 << 16, LEAST + 1,
        GREATEST - 1};
  }

  // A row of one letter, with another at one place.
  static String rowWith(int length, char letter, int place, char other) {
    StringBuilder row = new StringBuilder(String.valueOf(letter).repeat(length));
    row.setCharAt(place, other);
    return row.toString();
  }

  // A method as the tests write it: int type(boolean, int).
  static String told(Method method) {
    StringBuilder types = new StringBuilder();
    for (Class<?> type : method.getParameterTypes()) {
      types.append(types.length() == 0 ? "" : ", ").append(type.getName());
    }
    return method.getReturnType().getName() + " " + method.getName() + "(" + types + ")";
  }
}
