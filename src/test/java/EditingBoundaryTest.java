// One test for each sentence of promises 1 to 6 that names a boundary.
public final class EditingBoundaryTest {
  private static final int BAD = WildcardMatcher.BAD;
  private static final int NONE = WildcardMatcher.NONE;
  private static final int FULL = WildcardMatcher.FULL;
  private static final String TEXT_40 = Checks.row(40);
  private static final String PATTERN_12 = Checks.row(12);
  private static final Checks checks = new Checks();

  public static void main(String[] args) {
    newObjectIsEmpty();
    objectsAreApart();
    typeAddsAtTheEnd();
    typeIntoFullPattern();
    typeIntoFullText();
    fullnessOfOneSideOnly();
    typeNoLetter();
    typeTestsFullFirst();
    typeRefusedChangesNothing();
    typeAnswersNewNumber();
    replaceAtNoPlace();
    replaceByNoLetter();
    replaceAtNoPlaceByNoLetter();
    replaceRefusedChangesNothing();
    replaceChangesOneLetter();
    shortenTakesTheFirst();
    shortenAnswersNewNumber();
    shortenTheEmpty();
    letterNumberI();
    letterWhereNoneIs();
    lengthFrom0ToFull();
    lengthAfterRefusals();
    checks.finish();
  }

  private static String full(boolean side) {
    return side ? PATTERN_12 : TEXT_40;
  }

  private static WildcardMatcher with(boolean side, String row) {
    return side ? Checks.of("", row) : Checks.of(row, "");
  }

  private static void newObjectIsEmpty() {
    checks.sentence("1: Text and pattern are empty");
    for (boolean side : Checks.SIDES) {
      WildcardMatcher x = new WildcardMatcher();
      checks.due("length", x.length(side), 0);
      checks.due("letter 0", x.letter(side, 0), BAD);
      checks.due("replace 0", x.replace(side, 0, 1), false);
      checks.due("shorten", x.shorten(side), BAD);
      checks.due("type", x.type(side, 1), 1);
    }
    WildcardMatcher x = new WildcardMatcher();
    checks.due("matches 0", x.matches(0), true);
    checks.due("matches 1", x.matches(1), false);
    checks.due("matchCount", x.matchCount(), 1);
    checks.due("nextMatch 0", x.nextMatch(0), 0);
    checks.due("nextMatch 1", x.nextMatch(1), NONE);
    checks.due("mismatches 0", x.mismatches(0), 0);
    checks.due("mismatches 1", x.mismatches(1), BAD);
    checks.due("bestShift", x.bestShift(), 0);
    checks.due("within 0", x.within(0), 1);
    checks.due("within -1", x.within(-1), 0);
    checks.due("turnedMismatches 0", x.turnedMismatches(0), BAD);
  }

  private static void objectsAreApart() {
    checks.sentence("1: Text and pattern are empty");
    WildcardMatcher used = Checks.of(TEXT_40, PATTERN_12);
    WildcardMatcher other = new WildcardMatcher();
    checks.dueState("new beside a full one", other, "", "");
    Checks.typeAll(other, false, "33");
    Checks.typeAll(other, true, "4");
    checks.dueState("full beside a new one", used, TEXT_40, PATTERN_12);
  }

  private static void typeAddsAtTheEnd() {
    checks.sentence("2: Adds a letter at the end");
    for (boolean side : Checks.SIDES) {
      for (int length = 0; length < Checks.capacity(side); length++) {
        WildcardMatcher x = with(side, Checks.row(length));
        x.type(side, 3);
        checks.dueLetters("typed behind " + length, x, side, Checks.row(length) + "3");
        checks.dueLetters("typed on the other side", x, !side, "");
      }
    }
  }

  private static void typeIntoFullPattern() {
    checks.sentence("2: it has 12 letters: FULL");
    typeIntoFull(true, 12);
  }

  private static void typeIntoFullText() {
    checks.sentence("2: it has 40 letters: FULL");
    typeIntoFull(false, 40);
  }

  private static void typeIntoFull(boolean side, int most) {
    for (int letter = 0; letter <= 4; letter++) {
      WildcardMatcher x = with(side, full(side).substring(1));
      checks.due("type " + letter + " at one below full", x.type(side, letter), most);
      checks.due("type " + letter + " at full", x.type(side, letter), FULL);
      checks.due("type " + letter + " at full again", x.type(side, letter), FULL);
      checks.due("shorten the full", x.shorten(side), most - 1);
      checks.due("type " + letter + " at one below full again", x.type(side, letter), most);
      checks.due("type " + letter + " at full once more", x.type(side, letter), FULL);
    }
  }

  private static void fullnessOfOneSideOnly() {
    checks.sentence("2: it has 12, or 40, letters: FULL");
    WildcardMatcher pattern = Checks.of("", PATTERN_12);
    checks.due("full pattern, type text", pattern.type(false, 1), 1);
    checks.due("full pattern, type pattern", pattern.type(true, 1), FULL);
    WildcardMatcher text = Checks.of(TEXT_40, "");
    checks.due("full text, type pattern", text.type(true, 1), 1);
    checks.due("full text, type text", text.type(false, 1), FULL);
    WildcardMatcher twelve = Checks.of(PATTERN_12, PATTERN_12);
    checks.due("12 letters each, type text", twelve.type(false, 1), 13);
    checks.due("12 letters each, type pattern", twelve.type(true, 1), FULL);
    checks.due("12 letters each, type no letter into the text", twelve.type(false, 5), BAD);
  }

  private static void typeNoLetter() {
    checks.sentence("2: letter outside 0..4: BAD");
    for (boolean side : Checks.SIDES) {
      for (int length = 0; length < Checks.capacity(side); length++) {
        WildcardMatcher x = with(side, Checks.row(length));
        for (int letter : Checks.NOT_LETTERS) {
          checks.due("type " + letter + " behind " + length, x.type(side, letter), BAD);
        }
        checks.due("type behind " + length, x.type(side, length % 2 * 4), length + 1);
      }
    }
  }

  private static void typeTestsFullFirst() {
    checks.sentence("2: Tested in this order");
    for (boolean side : Checks.SIDES) {
      WildcardMatcher x = with(side, full(side));
      for (int letter : Checks.NOT_LETTERS) {
        checks.due("full, and no letter " + letter, x.type(side, letter), FULL);
      }
      x.shorten(side);
      for (int letter : Checks.NOT_LETTERS) {
        checks.due("one below full, and no letter " + letter, x.type(side, letter), BAD);
      }
    }
  }

  private static void typeRefusedChangesNothing() {
    checks.sentence("2: FULL and BAD change nothing");
    for (boolean side : Checks.SIDES) {
      for (int letter = 0; letter <= 4; letter++) {
        WildcardMatcher x = Checks.of(TEXT_40, PATTERN_12);
        x.type(side, letter);
        checks.dueState("after FULL for " + letter, x, TEXT_40, PATTERN_12);
      }
      for (int letter : Checks.NOT_LETTERS) {
        WildcardMatcher full = Checks.of(TEXT_40, PATTERN_12);
        full.type(side, letter);
        checks.dueState("after FULL for " + letter, full, TEXT_40, PATTERN_12);
        WildcardMatcher some = Checks.of("12034", "203");
        some.type(side, letter);
        checks.dueState("after BAD for " + letter, some, "12034", "203");
        some.type(side, 4);
        checks.dueState("typed after BAD", some, side ? "12034" : "120344", side ? "2034" : "203");
        WildcardMatcher empty = new WildcardMatcher();
        empty.type(side, letter);
        checks.dueState("after BAD for " + letter, empty, "", "");
      }
    }
  }

  private static void typeAnswersNewNumber() {
    checks.sentence("2: Else answers its new number of letters");
    for (boolean side : Checks.SIDES) {
      WildcardMatcher x = new WildcardMatcher();
      for (int length = 1; length <= Checks.capacity(side); length++) {
        checks.due("type number " + length, x.type(side, length % 5), length);
      }
    }
    WildcardMatcher both = new WildcardMatcher();
    for (int length = 1; length <= 12; length++) {
      checks.due("type text, by turns", both.type(false, 1), length);
      checks.due("type pattern, by turns", both.type(true, 1), length);
    }
  }

  private static void replaceAtNoPlace() {
    checks.sentence("3: There is no such letter: refused, answers false");
    for (boolean side : Checks.SIDES) {
      for (int length = 0; length <= Checks.capacity(side); length++) {
        // The other side is full, so that a place there would be taken for one here.
        WildcardMatcher x = side ? Checks.of(TEXT_40, Checks.row(length)) : Checks.of(Checks.row(length), PATTERN_12);
        for (int place : Checks.outside(length)) {
          checks.due("replace " + place + " of " + length, x.replace(side, place, 1), false);
        }
        if (length > 0) {
          checks.due("replace the first of " + length, x.replace(side, 0, 1), true);
          checks.due("replace the last of " + length, x.replace(side, length - 1, 1), true);
          x.shorten(side);
          checks.due("replace where the last was", x.replace(side, length - 1, 1), false);
        }
      }
    }
  }

  private static void replaceByNoLetter() {
    checks.sentence("3: or letter outside 0..4: refused, answers false");
    for (boolean side : Checks.SIDES) {
      WildcardMatcher x = Checks.of(TEXT_40, PATTERN_12);
      for (int place : new int[] {0, 5, Checks.capacity(side) - 1}) {
        for (int letter : Checks.NOT_LETTERS) {
          checks.due("replace " + place + " by " + letter, x.replace(side, place, letter), false);
        }
        for (int letter = 0; letter <= 4; letter++) {
          checks.due("replace " + place + " by " + letter, x.replace(side, place, letter), true);
          checks.due("replaced " + place, x.letter(side, place), letter);
        }
      }
    }
  }

  private static void replaceAtNoPlaceByNoLetter() {
    checks.sentence("3: There is no such letter, or letter outside 0..4");
    for (boolean side : Checks.SIDES) {
      for (int letter : Checks.NOT_LETTERS) {
        WildcardMatcher x = Checks.of("123", "123");
        for (int place : Checks.outside(3)) {
          checks.due("replace " + place + " by " + letter, x.replace(side, place, letter), false);
        }
        checks.dueState("both wrong", x, "123", "123");
      }
    }
  }

  private static void replaceRefusedChangesNothing() {
    checks.sentence("3: refused");
    for (boolean side : Checks.SIDES) {
      for (int letter : Checks.NOT_LETTERS) {
        WildcardMatcher x = Checks.of("12034", "203");
        x.replace(side, 1, letter);
        checks.dueState("refused letter " + letter, x, "12034", "203");
      }
      for (int place : Checks.outside(side ? 3 : 5)) {
        WildcardMatcher x = Checks.of("12034", "203");
        x.replace(side, place, 1);
        checks.dueState("refused place " + place, x, "12034", "203");
        x.type(side, 3);
        checks.dueState("typed after a refused place", x, side ? "12034" : "120343", side ? "2033" : "203");
      }
      for (int place : Checks.outside(Checks.capacity(side))) {
        WildcardMatcher x = Checks.of(TEXT_40, PATTERN_12);
        x.replace(side, place, 1);
        checks.dueState("refused place " + place + " of a full one", x, TEXT_40, PATTERN_12);
      }
      WildcardMatcher empty = new WildcardMatcher();
      empty.replace(side, 0, 1);
      checks.dueState("refused place 0 of an empty one", empty, "", "");
    }
  }

  private static void replaceChangesOneLetter() {
    checks.sentence("3: Replaces letter number i. Else true");
    for (boolean side : Checks.SIDES) {
      int length = Checks.capacity(side);
      for (int place = 0; place < length; place++) {
        WildcardMatcher x = Checks.of("1".repeat(40), "1".repeat(12));
        checks.due("replace " + place, x.replace(side, place, 4), true);
        checks.due("replace " + place + " by the same", x.replace(side, place, 4), true);
        String row = Checks.rowWith(length, '1', place, '4');
        checks.dueState("replaced " + place, x, side ? "1".repeat(40) : row, side ? row : "1".repeat(12));
      }
    }
  }

  private static void shortenTakesTheFirst() {
    checks.sentence("4: Takes the first letter of the pattern or the text away");
    for (boolean side : Checks.SIDES) {
      for (int length = 1; length <= Checks.capacity(side); length++) {
        WildcardMatcher x = Checks.of(TEXT_40, PATTERN_12);
        for (int left = Checks.capacity(side); left > length; left--) {
          x.shorten(side);
        }
        checks.due("shorten " + length, x.shorten(side), length - 1);
        String row = full(side).substring(Checks.capacity(side) - length + 1);
        checks.dueState("shortened " + length, x, side ? TEXT_40 : row, side ? row : PATTERN_12);
      }
    }
  }

  private static void shortenAnswersNewNumber() {
    checks.sentence("4: answers its new number of letters");
    for (boolean side : Checks.SIDES) {
      WildcardMatcher x = Checks.of(TEXT_40, PATTERN_12);
      for (int left = Checks.capacity(side) - 1; left >= 0; left--) {
        checks.due("shorten to " + left, x.shorten(side), left);
        checks.due("length " + left, x.length(side), left);
      }
      checks.due("length of the other side", x.length(!side), Checks.capacity(!side));
    }
  }

  private static void shortenTheEmpty() {
    checks.sentence("4: BAD if it had none");
    for (boolean side : Checks.SIDES) {
      WildcardMatcher x = new WildcardMatcher();
      checks.due("shorten a new one", x.shorten(side), BAD);
      checks.dueState("shortened a new one", x, "", "");
      checks.due("type", x.type(side, 2), 1);
      checks.due("shorten the only letter", x.shorten(side), 0);
      checks.due("shorten the emptied", x.shorten(side), BAD);
      checks.due("shorten the emptied again", x.shorten(side), BAD);
      checks.dueState("shortened the emptied", x, "", "");
      checks.due("type after BAD", x.type(side, 3), 1);
      checks.dueState("typed after BAD", x, side ? "" : "3", side ? "3" : "");
      String otherRow = side ? TEXT_40 : PATTERN_12;
      WildcardMatcher other = with(!side, otherRow);
      checks.due("shorten the empty beside a full one", other.shorten(side), BAD);
      checks.dueState("beside a full one", other, side ? otherRow : "", side ? "" : otherRow);
    }
  }

  private static void letterNumberI() {
    checks.sentence("5: Letter number i of the pattern or the text");
    for (boolean side : Checks.SIDES) {
      for (int length = 1; length <= Checks.capacity(side); length++) {
        for (WildcardMatcher x : Checks.bothWays(side ? "" : Checks.row(length), side ? Checks.row(length) : "")) {
          for (int i = 0; i < length; i++) {
            checks.due("letter " + i + " of " + length, x.letter(side, i), Checks.row(length).charAt(i) - '0');
          }
        }
      }
    }
  }

  private static void letterWhereNoneIs() {
    checks.sentence("5: BAD if there is none");
    for (boolean side : Checks.SIDES) {
      for (int length = 0; length <= Checks.capacity(side); length++) {
        String textRow = side ? TEXT_40 : Checks.row(length);
        String patternRow = side ? Checks.row(length) : PATTERN_12;
        for (WildcardMatcher x : Checks.bothWays(textRow, patternRow)) {
          for (int i : Checks.outside(length)) {
            checks.due("letter " + i + " of " + length, x.letter(side, i), BAD);
          }
          x.shorten(side);
          checks.due("letter where the last was, of " + length, x.letter(side, length - 1), BAD);
        }
      }
    }
  }

  private static void lengthFrom0ToFull() {
    checks.sentence("6: The number of letters of the pattern or the text");
    for (int n = 0; n <= 40; n++) {
      for (int m = 0; m <= 12; m++) {
        for (WildcardMatcher x : Checks.bothWays(Checks.row(n), Checks.row(m))) {
          checks.due("length of the text", x.length(false), n);
          checks.due("length of the pattern", x.length(true), m);
        }
      }
    }
  }

  private static void lengthAfterRefusals() {
    checks.sentence("6: The number of letters of the pattern or the text");
    for (boolean side : Checks.SIDES) {
      WildcardMatcher full = with(side, full(side));
      full.type(side, 1);
      checks.due("length after FULL", full.length(side), Checks.capacity(side));
      WildcardMatcher empty = new WildcardMatcher();
      empty.shorten(side);
      checks.due("length after shorten answered BAD", empty.length(side), 0);
      empty.type(side, 5);
      checks.due("length after type answered BAD", empty.length(side), 0);
      empty.replace(side, 0, 1);
      checks.due("length after replace was refused", empty.length(side), 0);
      empty.letter(side, 0);
      checks.due("length after letter answered BAD", empty.length(side), 0);
    }
  }
}
