// Promises 1 to 6: a new object, type, replace, shorten, letter, length. Their boundaries are in EditingBoundaryTest.
public final class EditingTest {
  private static final String TEXT_40 = "0123412340432104321000112233441122334401";
  private static final String PATTERN_12 = "012344321013";
  private static final Checks checks = new Checks();

  public static void main(String[] args) {
    promise1NewObject();
    promise2Type();
    promise2TypeWhenFull();
    promise3Replace();
    promise4Shorten();
    promise4ShortenThenType();
    promise5Letter();
    promise6Length();
    checks.finish();
  }

  private static void promise1NewObject() {
    WildcardMatcher x = new WildcardMatcher();
    checks.dueLetters("new", x, false, "");
    checks.dueLetters("new", x, true, "");
    checks.due("new: shorten text", x.shorten(false), WildcardMatcher.BAD);
    checks.due("new: shorten pattern", x.shorten(true), WildcardMatcher.BAD);

    WildcardMatcher used = Checks.of("123", "12");
    WildcardMatcher other = new WildcardMatcher();
    checks.dueLetters("new beside a used one", other, false, "");
    checks.dueLetters("new beside a used one", other, true, "");
    other.type(false, 4);
    checks.dueLetters("used beside a new one", used, false, "123");
  }

  private static void promise2Type() {
    for (boolean side : Checks.SIDES) {
      WildcardMatcher x = new WildcardMatcher();
      for (int letter = 0; letter <= 4; letter++) {
        checks.due("type " + letter, x.type(side, letter), letter + 1);
      }
      for (int letter : Checks.NOT_LETTERS) {
        checks.due("type " + letter, x.type(side, letter), WildcardMatcher.BAD);
      }
      checks.dueLetters("typed", x, side, "01234");
      checks.dueLetters("typed on the other side", x, !side, "");
    }
  }

  private static void promise2TypeWhenFull() {
    WildcardMatcher x = new WildcardMatcher();
    for (int i = 0; i < 40; i++) {
      checks.due("type text " + i, x.type(false, TEXT_40.charAt(i) - '0'), i + 1);
    }
    for (int i = 0; i < 12; i++) {
      checks.due("type pattern " + i, x.type(true, PATTERN_12.charAt(i) - '0'), i + 1);
    }
    for (boolean side : Checks.SIDES) {
      checks.due("type when full", x.type(side, 1), WildcardMatcher.FULL);
      checks.due("type the wildcard when full", x.type(side, 0), WildcardMatcher.FULL);
      for (int letter : Checks.NOT_LETTERS) {
        checks.due("type " + letter + " when full", x.type(side, letter), WildcardMatcher.FULL);
      }
    }
    checks.dueLetters("full", x, false, TEXT_40);
    checks.dueLetters("full", x, true, PATTERN_12);
    checks.due("full: shorten", x.shorten(true), 11);
    checks.due("one below full: not a letter", x.type(true, 5), WildcardMatcher.BAD);
    checks.due("one below full: a letter", x.type(true, 2), 12);
    checks.dueLetters("full again", x, true, PATTERN_12.substring(1) + "2");
  }

  private static void promise3Replace() {
    for (boolean side : Checks.SIDES) {
      WildcardMatcher x = Checks.of("11111", "11111");
      for (int i = 0; i < 5; i++) {
        checks.due("replace " + i, x.replace(side, i, 4 - i), true);
      }
      checks.dueLetters("replaced", x, side, "43210");
      checks.dueLetters("not replaced", x, !side, "11111");
      checks.due("replace by the same", x.replace(side, 0, 4), true);
      for (int letter : Checks.NOT_LETTERS) {
        checks.due("replace by " + letter, x.replace(side, 2, letter), false);
      }
      for (int place : Checks.outside(5)) {
        checks.due("replace at " + place, x.replace(side, place, 1), false);
      }
      checks.due("replace at no place by no letter", x.replace(side, 5, 5), false);
      checks.dueLetters("after refusals", x, side, "43210");
      checks.dueLetters("after refusals", x, !side, "11111");
    }
    WildcardMatcher full = Checks.of(TEXT_40, PATTERN_12);
    checks.due("replace the last of the text", full.replace(false, 39, 3), true);
    checks.due("replace the last of the pattern", full.replace(true, 11, 2), true);
    checks.due("replace text 40", full.replace(false, 40, 3), false);
    checks.due("replace pattern 12", full.replace(true, 12, 3), false);
    checks.dueLetters("full", full, false, TEXT_40.substring(0, 39) + "3");
    checks.dueLetters("full", full, true, PATTERN_12.substring(0, 11) + "2");
    WildcardMatcher empty = new WildcardMatcher();
    checks.due("replace in the empty text", empty.replace(false, 0, 1), false);
    checks.due("replace in the empty pattern", empty.replace(true, 0, 1), false);
    checks.dueLetters("empty", empty, false, "");
    checks.dueLetters("empty", empty, true, "");
  }

  private static void promise4Shorten() {
    for (boolean side : Checks.SIDES) {
      WildcardMatcher x = Checks.of(TEXT_40, PATTERN_12);
      String all = side ? PATTERN_12 : TEXT_40;
      for (int taken = 1; taken <= all.length(); taken++) {
        checks.due("shorten " + taken, x.shorten(side), all.length() - taken);
        if (taken % 7 == 1 || taken >= all.length() - 2) {
          checks.dueLetters("shortened by " + taken, x, side, all.substring(taken));
        }
      }
      checks.due("shorten the empty", x.shorten(side), WildcardMatcher.BAD);
      checks.due("shorten the empty again", x.shorten(side), WildcardMatcher.BAD);
      checks.dueLetters("emptied", x, side, "");
      checks.dueLetters("left alone", x, !side, side ? TEXT_40 : PATTERN_12);
      checks.due("type after emptying", x.type(side, 3), 1);
      checks.dueLetters("typed after emptying", x, side, "3");
    }
  }

  // A first-in, first-out run that goes round the whole capacity several times.
  private static void promise4ShortenThenType() {
    for (boolean side : Checks.SIDES) {
      String row = side ? PATTERN_12 : TEXT_40;
      WildcardMatcher x = Checks.of(TEXT_40, PATTERN_12);
      for (int i = 0; i < 100; i++) {
        int letter = i * 3 % 5;
        row = row.substring(1) + letter;
        checks.due("shorten in round " + i, x.shorten(side), row.length() - 1);
        checks.due("type in round " + i, x.type(side, letter), row.length());
      }
      checks.dueLetters("after the rounds", x, side, row);
    }
  }

  private static void promise5Letter() {
    WildcardMatcher x = Checks.of("01234", "432");
    checks.dueLetters("letters", x, false, "01234");
    checks.dueLetters("letters", x, true, "432");
    for (boolean side : Checks.SIDES) {
      for (int place : Checks.outside(side ? 3 : 5)) {
        checks.due("letter " + place, x.letter(side, place), WildcardMatcher.BAD);
      }
    }
    checks.due("letter 3 of the text", x.letter(false, 3), 3);
    checks.due("letter 3 of the pattern", x.letter(true, 3), WildcardMatcher.BAD);
    checks.due("shorten", x.shorten(false), 4);
    checks.due("no letter where the last one was", x.letter(false, 4), WildcardMatcher.BAD);
  }

  private static void promise6Length() {
    WildcardMatcher x = Checks.of("0000000", "00");
    checks.due("length of the text", x.length(false), 7);
    checks.due("length of the pattern", x.length(true), 2);
    x.type(true, 9);
    x.replace(true, 0, 1);
    checks.due("length after a refusal and a replacement", x.length(true), 2);
    x.shorten(false);
    checks.due("length of the shortened text", x.length(false), 6);
    checks.due("length of the pattern still", x.length(true), 2);
  }
}
