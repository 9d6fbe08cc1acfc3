// What the project's tests share: counting wrong answers, and filling an object.
final class Checks {
  private int wrong = 0;
  private int asked = 0;

  void due(String call, long got, long want) {
    asked++;
    if (got != want) {
      wrong++;
      System.out.println(call + " answered " + got + ", due is " + want);
    }
  }

  void due(String call, boolean got, boolean want) {
    due(call, got ? 1L : 0L, want ? 1L : 0L);
  }

  // Looks at a whole row of letters, and that nothing stands on either side of it.
  void dueLetters(String when, WildcardMatcher x, boolean pattern, String want) {
    String name = when + (pattern ? ", pattern: " : ", text: ");
    due(name + "length", x.length(pattern), want.length());
    due(name + "letter -1", x.letter(pattern, -1), WildcardMatcher.BAD);
    for (int i = 0; i < want.length(); i++) {
      due(name + "letter " + i, x.letter(pattern, i), want.charAt(i) - '0');
    }
    due(name + "letter " + want.length(), x.letter(pattern, want.length()), WildcardMatcher.BAD);
  }

  void finish() {
    System.out.println(wrong == 0 ? "all " + asked + " answers are as due" : wrong + " answers are not as due");
    if (wrong != 0 || asked == 0) {
      System.exit(1);
    }
  }

  static void typeAll(WildcardMatcher x, boolean pattern, String letters) {
    for (int i = 0; i < letters.length(); i++) {
      x.type(pattern, letters.charAt(i) - '0');
    }
  }

  static WildcardMatcher of(String text, String pattern) {
    WildcardMatcher x = new WildcardMatcher();
    typeAll(x, false, text);
    typeAll(x, true, pattern);
    return x;
  }
}
