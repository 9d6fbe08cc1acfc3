import java.util.function.ToLongFunction;

// One test for each sentence of 'What it is' and of 'Terms' that names a boundary.
public final class TermsBoundaryTest {
  private static final int BAD = WildcardMatcher.BAD;
  private static final int NONE = WildcardMatcher.NONE;
  private static final int FULL = WildcardMatcher.FULL;
  private static final int CALLS = 512;
  private static final Checks checks = new Checks();

  public static void main(String[] args) {
    the512thCall();
    oneCall512Times();
    textHas0To40Letters();
    patternHas0To12Letters();
    letterIs0To4();
    lettersAreNumberedFrom0();
    lettersAgree();
    shiftsAre0ToNMinusM();
    noShiftIfPatternIsLonger();
    mismatchesAreAtPlaces0ToMMinus1();
    matchesIffNoMismatches();
    turnedShiftsAre0ToNMinus1();
    turnedShiftsNeedOneLetterOfText();
    turnedShiftsNeedPatternNoLonger();
    turnedShiftWrapsAround();
    checks.finish();
  }

  private static void the512thCall() {
    checks.sentence("used for at most 512 calls");
    checks.due("type text", after511Calls().type(false, 1), FULL);
    checks.due("type pattern", after511Calls().type(true, 5), FULL);
    checks.due("replace", after511Calls().replace(true, 11, 4), true);
    checks.due("replace by no letter", after511Calls().replace(true, 11, 5), false);
    checks.due("shorten text", after511Calls().shorten(false), 39);
    checks.due("shorten pattern", after511Calls().shorten(true), 11);
    checks.due("letter 0 of the text", after511Calls().letter(false, 0), 0);
    checks.due("letter 39 of the text", after511Calls().letter(false, 39), 1);
    checks.due("letter 11 of the pattern", after511Calls().letter(true, 11), 4);
    checks.due("length of the text", after511Calls().length(false), 40);
    checks.due("length of the pattern", after511Calls().length(true), 12);
    checks.due("matches", after511Calls().matches(27), true);
    checks.due("matchCount", after511Calls().matchCount(), 7);
    checks.due("nextMatch", after511Calls().nextMatch(4), 7);
    checks.due("mismatches", after511Calls().mismatches(0), 11);
    checks.due("bestShift", after511Calls().bestShift(), 3);
    checks.due("within", after511Calls().within(11), 8);
    checks.due("turnedMismatches", after511Calls().turnedMismatches(39), 0);
  }

  // Leaves the text 0341 2341 .. 2341 and the pattern 1234 1234 1234.
  private static WildcardMatcher after511Calls() {
    WildcardMatcher x = Checks.of("1234".repeat(10), "1234".repeat(3));
    for (int i = 0; i < 229; i++) {
      x.shorten(false);
      x.type(false, 1 + i % 4);
    }
    x.replace(false, 0, 0);
    return x;
  }

  private static void oneCall512Times() {
    checks.sentence("used for at most 512 calls");
    WildcardMatcher text = new WildcardMatcher();
    WildcardMatcher pattern = new WildcardMatcher();
    for (int i = 1; i <= CALLS; i++) {
      checks.due("type text, call " + i, text.type(false, 1), i <= 40 ? i : FULL);
      checks.due("type pattern, call " + i, pattern.type(true, 1), i <= 12 ? i : FULL);
    }
    always("type no letter", BAD, x -> x.type(false, 5));
    always("replace", 0, x -> x.replace(false, 0, 1) ? 1 : 0);
    always("shorten text", BAD, x -> x.shorten(false));
    always("shorten pattern", BAD, x -> x.shorten(true));
    always("letter", BAD, x -> x.letter(false, 0));
    always("length", 0, x -> x.length(true));
    always("matches", 1, x -> x.matches(0) ? 1 : 0);
    always("matchCount", 1, x -> x.matchCount());
    always("nextMatch", NONE, x -> x.nextMatch(1));
    always("mismatches", 0, x -> x.mismatches(0));
    always("bestShift", 0, x -> x.bestShift());
    always("within", 1, x -> x.within(0));
    always("turnedMismatches", BAD, x -> x.turnedMismatches(0));
  }

  private static void always(String name, long want, ToLongFunction<WildcardMatcher> call) {
    WildcardMatcher x = new WildcardMatcher();
    for (int i = 1; i <= CALLS; i++) {
      checks.due(name + ", call " + i, call.applyAsLong(x), want);
    }
  }

  private static void textHas0To40Letters() {
    checks.sentence("a TEXT of n letters (0 to 40)");
    rowHasUpTo(false, 40);
  }

  private static void patternHas0To12Letters() {
    checks.sentence("a PATTERN of m letters (0 to 12)");
    rowHasUpTo(true, 12);
  }

  private static void rowHasUpTo(boolean side, int most) {
    WildcardMatcher x = new WildcardMatcher();
    checks.due("shorten at 0 letters", x.shorten(side), BAD);
    checks.due("length at 0 letters", x.length(side), 0);
    Checks.typeAll(x, side, Checks.row(most - 1));
    checks.due("the last letter that has room", x.type(side, 3), most);
    checks.dueLetters("full", x, side, Checks.row(most - 1) + "3");
    checks.due("the first that has none", x.type(side, 3), FULL);
    checks.due("length when full", x.length(side), most);
    for (int left = most - 1; left >= 0; left--) {
      checks.due("shorten", x.shorten(side), left);
    }
    checks.due("shorten at 0 letters again", x.shorten(side), BAD);
    checks.due("length at 0 letters again", x.length(side), 0);
  }

  private static void letterIs0To4() {
    checks.sentence("A letter is a number from 1 to 4, or 0");
    for (boolean side : Checks.SIDES) {
      for (int letter = 0; letter <= 4; letter++) {
        WildcardMatcher x = new WildcardMatcher();
        checks.due("type " + letter, x.type(side, letter), 1);
        checks.due("typed " + letter, x.letter(side, 0), letter);
        checks.due("replace by " + (4 - letter), x.replace(side, 0, 4 - letter), true);
        checks.due("replaced by " + (4 - letter), x.letter(side, 0), 4 - letter);
      }
      for (int letter : Checks.NOT_LETTERS) {
        WildcardMatcher x = Checks.of("3", "3");
        checks.due("type " + letter, x.type(side, letter), BAD);
        checks.due("replace by " + letter, x.replace(side, 0, letter), false);
        checks.dueLetters("after " + letter, x, side, "3");
      }
    }
  }

  private static void lettersAreNumberedFrom0() {
    checks.sentence("Letters are numbered from 0");
    for (boolean side : Checks.SIDES) {
      WildcardMatcher x = Checks.of("123", "123");
      checks.due("letter -1", x.letter(side, -1), BAD);
      checks.due("letter 0", x.letter(side, 0), 1);
      checks.due("letter 2", x.letter(side, 2), 3);
      checks.due("letter 3", x.letter(side, 3), BAD);
      checks.due("replace 0", x.replace(side, 0, 4), true);
      checks.due("replace 2", x.replace(side, 2, 4), true);
      checks.dueLetters("replaced", x, side, "424");
    }
  }

  // Each pair stands first, in the middle, last, and behind the turn over the end of the text.
  private static void lettersAgree() {
    checks.sentence("Two letters AGREE iff they are equal or one of them is the wildcard");
    for (int a = 0; a <= 4; a++) {
      for (int b = 0; b <= 4; b++) {
        int due = a == b || a == 0 || b == 0 ? 0 : 1;
        for (int place = 0; place < 3; place++) {
          WildcardMatcher x = Checks.of(Checks.rowWith(3, '0', place, (char) ('0' + a)),
              Checks.rowWith(3, '0', place, (char) ('0' + b)));
          String pair = a + " and " + b + " at place " + place;
          checks.due("mismatches, " + pair, x.mismatches(0), due);
          checks.due("matches, " + pair, x.matches(0), due == 0);
          checks.due("matchCount, " + pair, x.matchCount(), 1 - due);
          checks.due("nextMatch, " + pair, x.nextMatch(0), due == 0 ? 0 : NONE);
          checks.due("within 0, " + pair, x.within(0), 1 - due);
          checks.due("turnedMismatches, " + pair, x.turnedMismatches(0), due);
        }
        WildcardMatcher turned = Checks.of("" + a + "00", "0" + b);
        checks.due("turned over the end, " + a + " and " + b, turned.turnedMismatches(2), due);
      }
    }
  }

  private static void shiftsAre0ToNMinusM() {
    checks.sentence("A SHIFT is a number i from 0 to n - m");
    for (int n = 0; n <= 40; n++) {
      for (int m = 0; m <= 12 && m <= n; m++) {
        for (WildcardMatcher x : Checks.bothWays("1".repeat(n), "1".repeat(m))) {
          String size = ", n " + n + ", m " + m;
          checks.due("mismatches 0" + size, x.mismatches(0), 0);
          checks.due("mismatches n - m" + size, x.mismatches(n - m), 0);
          checks.due("matches 0" + size, x.matches(0), true);
          checks.due("matches n - m" + size, x.matches(n - m), true);
          for (int i : Checks.outside(n - m + 1)) {
            checks.due("mismatches " + i + size, x.mismatches(i), BAD);
            checks.due("matches " + i + size, x.matches(i), false);
          }
          checks.due("matchCount" + size, x.matchCount(), n - m + 1);
          checks.due("within 0" + size, x.within(0), n - m + 1);
          checks.due("nextMatch n - m" + size, x.nextMatch(n - m), n - m);
          checks.due("nextMatch n - m + 1" + size, x.nextMatch(n - m + 1), NONE);
        }
      }
    }
  }

  private static void noShiftIfPatternIsLonger() {
    checks.sentence("there is none if m is greater than n");
    for (int n = 0; n < 12; n++) {
      for (int m = n + 1; m <= 12; m++) {
        for (WildcardMatcher x : Checks.bothWays("0".repeat(n), "0".repeat(m))) {
          dueNoShifts("n " + n + ", m " + m, x, n);
          Checks.typeAll(x, false, "0".repeat(m - n - 1));
          dueNoShifts("n " + (m - 1) + ", m " + m, x, m - 1);
          x.type(false, 0);
          checks.due("matchCount, n = m = " + m, x.matchCount(), 1);
          checks.due("mismatches 0, n = m = " + m, x.mismatches(0), 0);
          checks.due("bestShift, n = m = " + m, x.bestShift(), 0);
          checks.due("mismatches 1, n = m = " + m, x.mismatches(1), BAD);
        }
      }
    }
  }

  private static void dueNoShifts(String size, WildcardMatcher x, int n) {
    for (int i = -2; i <= n + 1; i++) {
      checks.due("mismatches " + i + ", " + size, x.mismatches(i), BAD);
      checks.due("matches " + i + ", " + size, x.matches(i), false);
      checks.due("nextMatch " + i + ", " + size, x.nextMatch(i), NONE);
    }
    checks.due("matchCount, " + size, x.matchCount(), 0);
    checks.due("bestShift, " + size, x.bestShift(), NONE);
    checks.due("within, " + size, x.within(Checks.GREATEST), 0);
  }

  // One letter of the text disagrees with the whole pattern: it counts at the shifts that reach it, at no others.
  private static void mismatchesAreAtPlaces0ToMMinus1() {
    checks.sentence("the j from 0 to m - 1 for which letter i + j of the text and letter j .. do not agree");
    for (int n = 1; n <= 40; n++) {
      for (int m = 0; m <= 12 && m <= n; m++) {
        for (int place = 0; place < n; place++) {
          WildcardMatcher x = Checks.of(Checks.rowWith(n, '1', place, '2'), "1".repeat(m));
          for (int i = 0; i <= n - m; i++) {
            int due = i <= place && place <= i + m - 1 ? 1 : 0;
            checks.due("mismatches " + i + ", n " + n + ", m " + m + ", place " + place, x.mismatches(i), due);
          }
        }
      }
    }
  }

  private static void matchesIffNoMismatches() {
    checks.sentence("MATCHES at shift i iff it has no mismatches there");
    for (int m = 1; m <= 12; m++) {
      String row = Checks.row(m).replace('0', '4');
      checks.due("no mismatch, m " + m, Checks.of("2" + row + "2", row).matches(1), true);
      checks.due("as many as can be, m " + m, Checks.of("1".repeat(m), "3".repeat(m)).matches(0), false);
      for (int place = 0; place < m; place++) {
        WildcardMatcher x = Checks.of("2" + row + "2", row);
        int other = row.charAt(place) - '0' == 1 ? 2 : 1;
        x.replace(true, place, other);
        checks.due("one mismatch at " + place + ", m " + m, x.matches(1), false);
        x.replace(true, place, 0);
        checks.due("one wildcard at " + place + ", m " + m, x.matches(1), true);
      }
    }
    checks.due("empty pattern", Checks.of("12", "").matches(2), true);
    checks.due("empty text and pattern", new WildcardMatcher().matches(0), true);
  }

  private static void turnedShiftsAre0ToNMinus1() {
    checks.sentence("The TURNED shifts, 0 to n - 1");
    for (int n = 1; n <= 40; n++) {
      for (int m = 0; m <= 12 && m <= n; m++) {
        for (WildcardMatcher x : Checks.bothWays("1".repeat(n), "2".repeat(m))) {
          String size = ", n " + n + ", m " + m;
          checks.due("turned 0" + size, x.turnedMismatches(0), m);
          checks.due("turned n - 1" + size, x.turnedMismatches(n - 1), m);
          for (int i : Checks.outside(n)) {
            checks.due("turned " + i + size, x.turnedMismatches(i), BAD);
          }
        }
      }
    }
  }

  private static void turnedShiftsNeedOneLetterOfText() {
    checks.sentence("exist iff n is at least 1");
    for (WildcardMatcher x : Checks.bothWays("", "")) {
      checks.due("turned 0, n 0, m 0", x.turnedMismatches(0), BAD);
      for (int i : Checks.outside(0)) {
        checks.due("turned " + i + ", n 0, m 0", x.turnedMismatches(i), BAD);
      }
      x.type(false, 1);
      checks.due("turned 0, n 1, m 0", x.turnedMismatches(0), 0);
      x.type(true, 2);
      checks.due("turned 0, n 1, m 1", x.turnedMismatches(0), 1);
      x.shorten(false);
      checks.due("turned 0, n 0, m 1", x.turnedMismatches(0), BAD);
      x.shorten(true);
      checks.due("turned 0, n 0, m 0 again", x.turnedMismatches(0), BAD);
    }
  }

  private static void turnedShiftsNeedPatternNoLonger() {
    checks.sentence("and m is at most n");
    for (int m = 1; m <= 12; m++) {
      for (int n = 0; n < m; n++) {
        for (WildcardMatcher x : Checks.bothWays("0".repeat(n), "0".repeat(m))) {
          for (int i = -1; i <= m; i++) {
            checks.due("turned " + i + ", n " + n + ", m " + m, x.turnedMismatches(i), BAD);
          }
        }
      }
      WildcardMatcher same = Checks.of("1".repeat(m), "2".repeat(m));
      for (int i = 0; i < m; i++) {
        checks.due("turned " + i + ", n = m = " + m, same.turnedMismatches(i), m);
      }
    }
  }

  // One letter of the text disagrees with the whole pattern: it counts where the pattern reaches it, turned or not.
  private static void turnedShiftWrapsAround() {
    checks.sentence("letter (i + j) mod n of the text");
    for (int n = 1; n <= 40; n++) {
      for (int m = 0; m <= 12 && m <= n; m++) {
        for (int place = 0; place < n; place++) {
          WildcardMatcher x = Checks.of(Checks.rowWith(n, '1', place, '2'), "1".repeat(m));
          for (int i = 0; i < n; i++) {
            int due = (place - i + n) % n < m ? 1 : 0;
            checks.due("turned " + i + ", n " + n + ", m " + m + ", place " + place, x.turnedMismatches(i), due);
          }
        }
      }
    }
  }
}
