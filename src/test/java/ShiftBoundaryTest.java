// One test for each sentence of promises 7 to 13 that names a boundary.
public final class ShiftBoundaryTest {
  private static final int BAD = WildcardMatcher.BAD;
  private static final int NONE = WildcardMatcher.NONE;
  private static final int LEAST = Checks.LEAST;
  private static final int GREATEST = Checks.GREATEST;
  private static final Checks checks = new Checks();

  public static void main(String[] args) {
    matchesAtNoShift();
    matchesAtTheOnlyMatch();
    matchCountFromNoneToAll();
    matchCountOfTheOnlyMatch();
    nextMatchNotBelowFrom();
    nextMatchSmallest();
    nextMatchFromAnyInt();
    nextMatchIfThereIsNone();
    mismatchesFrom0ToM();
    mismatchesAtNoShift();
    bestShiftFewest();
    bestShiftSmallestOfSeveral();
    bestShiftWithoutShifts();
    withinAtMostK();
    withinAnyInt();
    withinWithoutShifts();
    turnedMismatchesAcrossTheEnd();
    turnedMismatchesAtNoTurnedShift();
    questionsChangeNothing();
    checks.finish();
  }

  // A pattern that begins with a 1 and has wildcards behind it matches only where this text of 2s has its 1.
  private static WildcardMatcher onlyMatch(int n, int m, int place) {
    return Checks.of(Checks.rowWith(n, '2', place, '1'), "1" + "0".repeat(m - 1));
  }

  private static String size(int n, int m) {
    return ", n " + n + ", m " + m;
  }

  private static void matchesAtNoShift() {
    checks.sentence("7: false if there is no such shift");
    for (int n = 0; n <= 40; n++) {
      for (int m = 0; m <= 12; m++) {
        for (WildcardMatcher x : Checks.bothWays("0".repeat(n), "0".repeat(m))) {
          for (int i = 0; i <= n - m; i++) {
            checks.due("matches " + i + size(n, m), x.matches(i), true);
          }
          for (int i : Checks.outside(m > n ? 0 : n - m + 1)) {
            checks.due("matches " + i + size(n, m), x.matches(i), false);
          }
        }
      }
    }
  }

  private static void matchesAtTheOnlyMatch() {
    checks.sentence("7: Whether the pattern matches at shift i");
    for (int n = 1; n <= 40; n++) {
      for (int m = 1; m <= 12 && m <= n; m++) {
        for (int place = 0; place < n; place++) {
          WildcardMatcher x = onlyMatch(n, m, place);
          for (int i = -1; i <= n; i++) {
            checks.due("matches " + i + size(n, m), x.matches(i), i == place && i <= n - m);
          }
        }
      }
    }
  }

  private static void matchCountFromNoneToAll() {
    checks.sentence("8: The number of shifts at which the pattern matches");
    for (int n = 0; n <= 40; n++) {
      for (int m = 0; m <= 12; m++) {
        int shifts = m > n ? 0 : n - m + 1;
        for (WildcardMatcher x : Checks.bothWays("3".repeat(n), "3".repeat(m))) {
          checks.due("all match" + size(n, m), x.matchCount(), shifts);
        }
        for (WildcardMatcher x : Checks.bothWays("3".repeat(n), "4".repeat(m))) {
          checks.due("none matches but the empty" + size(n, m), x.matchCount(), m == 0 ? shifts : 0);
        }
      }
    }
  }

  private static void matchCountOfTheOnlyMatch() {
    checks.sentence("8: The number of shifts at which the pattern matches");
    for (int n = 1; n <= 40; n++) {
      for (int m = 1; m <= 12 && m <= n; m++) {
        for (int place = 0; place < n; place++) {
          int due = place <= n - m ? 1 : 0;
          checks.due("match at " + place + size(n, m), onlyMatch(n, m, place).matchCount(), due);
        }
      }
    }
  }

  private static void nextMatchNotBelowFrom() {
    checks.sentence("9: not below from");
    for (int n = 1; n <= 40; n++) {
      for (int m = 1; m <= 12 && m <= n; m++) {
        for (int place = 0; place <= n - m; place++) {
          WildcardMatcher x = onlyMatch(n, m, place);
          String where = ", match at " + place + size(n, m);
          checks.due("nextMatch from below" + where, x.nextMatch(place - 1), place);
          checks.due("nextMatch from the match" + where, x.nextMatch(place), place);
          checks.due("nextMatch from behind" + where, x.nextMatch(place + 1), NONE);
          checks.due("nextMatch 0" + where, x.nextMatch(0), place);
        }
      }
    }
  }

  private static void nextMatchSmallest() {
    checks.sentence("9: The smallest shift");
    for (int first = 0; first <= 28; first++) {
      for (int second = first + 1; second <= 28; second++) {
        WildcardMatcher x = onlyMatch(40, 12, first);
        x.replace(false, second, 1);
        String where = ", matches at " + first + " and " + second;
        checks.due("nextMatch 0" + where, x.nextMatch(0), first);
        checks.due("nextMatch from the first" + where, x.nextMatch(first), first);
        checks.due("nextMatch behind the first" + where, x.nextMatch(first + 1), second);
        checks.due("nextMatch from the second" + where, x.nextMatch(second), second);
        checks.due("nextMatch behind the second" + where, x.nextMatch(second + 1), NONE);
      }
    }
  }

  private static void nextMatchFromAnyInt() {
    checks.sentence("9: from (any int)");
    for (int place : new int[] {0, 1, 28}) {
      WildcardMatcher x = onlyMatch(40, 12, place);
      for (int from : new int[] {LEAST, LEAST + 1, -65536, -256, -41, -40, -2, -1}) {
        checks.due("nextMatch " + from, x.nextMatch(from), place);
      }
      for (int from : new int[] {29, 30, 39, 40, 41, 256, 65536, GREATEST - 40, GREATEST - 1, GREATEST}) {
        checks.due("nextMatch " + from, x.nextMatch(from), NONE);
      }
    }
  }

  private static void nextMatchIfThereIsNone() {
    checks.sentence("9: NONE if there is none");
    int[] froms = {LEAST, -1, 0, 1, GREATEST};
    for (int n = 0; n <= 40; n++) {
      for (int m = 0; m <= 12; m++) {
        WildcardMatcher differs = Checks.of("3".repeat(n), "4".repeat(m));
        WildcardMatcher agrees = Checks.of("3".repeat(n), "3".repeat(m));
        for (int from : froms) {
          if (m > 0) {
            checks.due("nextMatch " + from + size(n, m), differs.nextMatch(from), NONE);
          }
          int first = from < 0 ? 0 : from;
          checks.due("nextMatch " + from + size(n, m), agrees.nextMatch(from), first <= n - m ? first : NONE);
        }
        if (m <= n) {
          checks.due("nextMatch at the last shift" + size(n, m), agrees.nextMatch(n - m), n - m);
        }
        int behind = m > n ? 0 : n - m + 1;
        checks.due("nextMatch behind the last shift" + size(n, m), agrees.nextMatch(behind), NONE);
      }
    }
  }

  // The first letters of the pattern mismatch and the others do not, from none of them to all of them.
  private static void mismatchesFrom0ToM() {
    checks.sentence("10: The number of mismatches at shift i");
    for (int m = 0; m <= 12; m++) {
      for (int count = 0; count <= m; count++) {
        for (int n : new int[] {m, m + 1, 39, 40}) {
          WildcardMatcher x = Checks.of("1".repeat(n), "2".repeat(count) + "1".repeat(m - count));
          for (int i = 0; i <= n - m; i++) {
            checks.due("mismatches " + i + size(n, m), x.mismatches(i), count);
          }
        }
      }
    }
  }

  private static void mismatchesAtNoShift() {
    checks.sentence("10: BAD if there is no such shift");
    for (int n = 0; n <= 40; n++) {
      for (int m = 0; m <= 12; m++) {
        for (WildcardMatcher x : Checks.bothWays("1".repeat(n), "2".repeat(m))) {
          if (m <= n) {
            checks.due("mismatches 0" + size(n, m), x.mismatches(0), m);
            checks.due("mismatches n - m" + size(n, m), x.mismatches(n - m), m);
          }
          for (int i : Checks.outside(m > n ? 0 : n - m + 1)) {
            checks.due("mismatches " + i + size(n, m), x.mismatches(i), BAD);
          }
        }
      }
    }
  }

  // One shift, the first and the last among them, has one mismatch less than all others.
  private static void bestShiftFewest() {
    checks.sentence("11: The shift with the fewest mismatches");
    for (int n = 1; n <= 40; n++) {
      for (int m = 1; m <= 12 && m <= n; m++) {
        for (int place = 0; place <= n - m; place++) {
          checks.due("no mismatch at " + place + size(n, m), onlyMatch(n, m, place).bestShift(), place);
          WildcardMatcher x = Checks.of(Checks.rowWith(n, '2', place, '1'), "1" + "3".repeat(m - 1));
          checks.due("m - 1 mismatches at " + place + size(n, m), x.bestShift(), place);
        }
      }
    }
  }

  private static void bestShiftSmallestOfSeveral() {
    checks.sentence("11: the smallest of several");
    for (int n = 0; n <= 40; n++) {
      for (int m = 0; m <= 12 && m <= n; m++) {
        checks.due("none mismatches" + size(n, m), Checks.of("1".repeat(n), "1".repeat(m)).bestShift(), 0);
        checks.due("all mismatch" + size(n, m), Checks.of("1".repeat(n), "2".repeat(m)).bestShift(), 0);
      }
    }
    for (int first = 0; first <= 28; first++) {
      for (int second = first + 1; second <= 28; second++) {
        WildcardMatcher x = onlyMatch(40, 12, first);
        x.replace(false, second, 1);
        checks.due("matches at " + first + " and " + second, x.bestShift(), first);
        x.replace(true, 11, 3);
        checks.due("one mismatch at " + first + " and " + second, x.bestShift(), first);
      }
    }
  }

  private static void bestShiftWithoutShifts() {
    checks.sentence("11: NONE if there are no shifts");
    for (int m = 0; m <= 12; m++) {
      for (int n = 0; n < m; n++) {
        for (WildcardMatcher x : Checks.bothWays("0".repeat(n), "0".repeat(m))) {
          checks.due("bestShift" + size(n, m), x.bestShift(), NONE);
        }
      }
      for (WildcardMatcher x : Checks.bothWays("0".repeat(m), "0".repeat(m))) {
        checks.due("bestShift" + size(m, m), x.bestShift(), 0);
      }
    }
  }

  private static void withinAtMostK() {
    checks.sentence("12: The number of shifts with at most k mismatches");
    for (int m = 0; m <= 12; m++) {
      for (int count = 0; count <= m; count++) {
        for (int n : new int[] {m, m + 1, 39, 40}) {
          WildcardMatcher x = Checks.of("1".repeat(n), "2".repeat(count) + "1".repeat(m - count));
          String which = ", each shift with " + count + size(n, m);
          checks.due("within one less" + which, x.within(count - 1), 0);
          checks.due("within as many" + which, x.within(count), n - m + 1);
          checks.due("within one more" + which, x.within(count + 1), n - m + 1);
        }
      }
    }
    // Shifts 0 to 16 have 12 mismatches, and from there each has one less than the one before it.
    WildcardMatcher x = Checks.of("1".repeat(28) + "2".repeat(12), "2".repeat(12));
    for (int k = 0; k < 12; k++) {
      checks.due("within " + k, x.within(k), k + 1);
    }
    checks.due("within 12", x.within(12), 29);
    checks.due("within 13", x.within(13), 29);
  }

  private static void withinAnyInt() {
    checks.sentence("12: k any int");
    for (int n = 0; n <= 40; n++) {
      for (int m = 0; m <= 12 && m <= n; m++) {
        WildcardMatcher agrees = Checks.of("1".repeat(n), "1".repeat(m));
        WildcardMatcher differs = Checks.of("1".repeat(n), "2".repeat(m));
        for (int k : new int[] {LEAST, LEAST + 1, -65536, -256, -13, -12, -1}) {
          checks.due("within " + k + size(n, m), agrees.within(k), 0);
          checks.due("within " + k + size(n, m), differs.within(k), 0);
        }
        for (int k : new int[] {12, 13, 256, 65536, GREATEST - 1, GREATEST}) {
          checks.due("within " + k + size(n, m), agrees.within(k), n - m + 1);
          checks.due("within " + k + size(n, m), differs.within(k), n - m + 1);
        }
      }
    }
  }

  private static void withinWithoutShifts() {
    checks.sentence("12: The number of shifts, of which there are none");
    for (int m = 1; m <= 12; m++) {
      for (int n = 0; n < m; n++) {
        for (WildcardMatcher x : Checks.bothWays("0".repeat(n), "0".repeat(m))) {
          for (int k : new int[] {LEAST, -1, 0, 1, 12, GREATEST}) {
            checks.due("within " + k + size(n, m), x.within(k), 0);
          }
        }
      }
    }
  }

  // The pattern is the text from its own turned shift on, so that a wrong letter at any place of it is seen.
  private static void turnedMismatchesAcrossTheEnd() {
    checks.sentence("13: The number of mismatches at turned shift i");
    for (int n = 1; n <= 40; n++) {
      String text = Checks.row(n).replace('0', '4');
      for (int m = 0; m <= 12 && m <= n; m++) {
        for (int i = 0; i < n; i++) {
          String pattern = (text + text).substring(i, i + m);
          for (WildcardMatcher x : Checks.bothWays(text, pattern)) {
            checks.due("turned " + i + size(n, m), x.turnedMismatches(i), 0);
            for (int j = 0; j < m; j++) {
              x.replace(true, j, pattern.charAt(j) == '1' ? 2 : 1);
              checks.due("turned " + i + ", others to " + j + size(n, m), x.turnedMismatches(i), j + 1);
            }
          }
        }
      }
    }
  }

  private static void turnedMismatchesAtNoTurnedShift() {
    checks.sentence("13: BAD if there is no such turned shift");
    for (int n = 0; n <= 40; n++) {
      for (int m = 0; m <= 12; m++) {
        boolean some = n >= 1 && m <= n;
        for (WildcardMatcher x : Checks.bothWays("1".repeat(n), "2".repeat(m))) {
          checks.due("turned 0" + size(n, m), x.turnedMismatches(0), some ? m : BAD);
          checks.due("turned n - 1" + size(n, m), x.turnedMismatches(n - 1), some ? m : BAD);
          for (int i : Checks.outside(n)) {
            checks.due("turned " + i + size(n, m), x.turnedMismatches(i), BAD);
          }
        }
      }
    }
  }

  private static void questionsChangeNothing() {
    checks.sentence("7 to 13: questions change nothing, whether there is an answer or none");
    String[][] rows = {{"", ""}, {"12", ""}, {"", "12"}, {"120341", "120"}, {Checks.row(40), Checks.row(12)}};
    for (String[] row : rows) {
      for (int i : new int[] {LEAST, -1, 0, 1, 5, 28, 40, GREATEST}) {
        WildcardMatcher x = Checks.of(row[0], row[1]);
        x.matches(i);
        x.matchCount();
        x.nextMatch(i);
        x.mismatches(i);
        x.bestShift();
        x.within(i);
        x.turnedMismatches(i);
        x.letter(false, i);
        x.letter(true, i);
        checks.dueState("asked about " + i, x, row[0], row[1]);
      }
    }
  }
}
