// Promises 7 to 13: what is asked of the shifts and of the turned shifts. Their boundaries are in ShiftBoundaryTest.
public final class ShiftTest {
  private static final int BAD = WildcardMatcher.BAD;
  private static final int NONE = WildcardMatcher.NONE;
  private static final int LEAST = Integer.MIN_VALUE;
  private static final int GREATEST = Integer.MAX_VALUE;
  private static final Checks checks = new Checks();

  public static void main(String[] args) {
    promise7Matches();
    promise8MatchCount();
    promise9NextMatch();
    promise10Mismatches();
    promise11BestShift();
    promise12Within();
    promise13TurnedMismatches();
    fullTextAndPattern();
    checks.finish();
  }

  // Agreeing is not transitive: a wildcard agrees with 1 and with 2, which do not agree with each other.
  private static void promise7Matches() {
    WildcardMatcher x = Checks.of("10212", "12");
    boolean[] due = {true, true, false, true};
    for (int i = 0; i < due.length; i++) {
      checks.due("matches " + i, x.matches(i), due[i]);
    }
    for (int i : new int[] {-1, 4, 5, 40, LEAST, GREATEST, GREATEST - 1, LEAST + 1}) {
      checks.due("matches at no shift " + i, x.matches(i), false);
    }
    WildcardMatcher wild = Checks.of("1234", "00");
    checks.due("matches at the last shift", wild.matches(2), true);
    checks.due("matches past the last shift", wild.matches(3), false);
    checks.due("matches before the first shift", wild.matches(-1), false);
  }

  private static void promise8MatchCount() {
    checks.due("overlapping matches", Checks.of("11111", "11").matchCount(), 4);
    checks.due("no match", Checks.of("11111", "12").matchCount(), 0);
    checks.due("wildcards in the text", Checks.of("10201", "12").matchCount(), 2);
    checks.due("wildcards in the pattern", Checks.of("123412", "10").matchCount(), 2);
    checks.due("as long as the text", Checks.of("1234", "1234").matchCount(), 1);
    checks.due("a match at the end does not turn", Checks.of("2331", "12").matchCount(), 0);
  }

  private static void promise9NextMatch() {
    WildcardMatcher x = Checks.of("3123120", "12");
    int[] due = {1, 1, 4, 4, 4, NONE, NONE, NONE};
    for (int from = 0; from < due.length; from++) {
      checks.due("nextMatch " + from, x.nextMatch(from), due[from]);
    }
    checks.due("nextMatch -1", x.nextMatch(-1), 1);
    checks.due("nextMatch of the least int", x.nextMatch(LEAST), 1);
    checks.due("nextMatch of the greatest int", x.nextMatch(GREATEST), NONE);
    WildcardMatcher first = Checks.of("1222", "1");
    checks.due("nextMatch at the first shift from -1", first.nextMatch(-1), 0);
    checks.due("nextMatch at the first shift from the least int", first.nextMatch(LEAST), 0);
    WildcardMatcher last = Checks.of("2221", "1");
    checks.due("nextMatch at the last shift", last.nextMatch(3), 3);
    checks.due("nextMatch past the last shift", last.nextMatch(4), NONE);
  }

  private static void promise10Mismatches() {
    WildcardMatcher x = Checks.of("1203412", "124");
    int[] due = {0, 2, 1, 3, 3};
    for (int i = 0; i < due.length; i++) {
      checks.due("mismatches " + i, x.mismatches(i), due[i]);
    }
    for (int i : new int[] {-1, 5, 6, 7, LEAST, GREATEST}) {
      checks.due("mismatches at no shift " + i, x.mismatches(i), BAD);
    }
  }

  private static void promise11BestShift() {
    checks.due("the only best one", Checks.of("44123", "123").bestShift(), 2);
    checks.due("the smallest of several", Checks.of("4124124", "12").bestShift(), 1);
    checks.due("several with mismatches", Checks.of("33313", "122").bestShift(), 0);
    checks.due("best has mismatches", Checks.of("33412", "132").bestShift(), 0);
    checks.due("best is the last", Checks.of("3331", "1").bestShift(), 3);
    checks.due("every letter mismatches", Checks.of("1111111111111", "222222222222").bestShift(), 0);
    checks.due("no shifts", Checks.of("1", "11").bestShift(), NONE);
  }

  private static void promise12Within() {
    WildcardMatcher x = Checks.of("11122", "122");
    // Shifts 0, 1 and 2 have 2, 1 and 0 mismatches.
    int[] due = {1, 2, 3, 3};
    for (int k = 0; k < due.length; k++) {
      checks.due("within " + k, x.within(k), due[k]);
    }
    checks.due("within -1", x.within(-1), 0);
    checks.due("within the least int", x.within(LEAST), 0);
    checks.due("within the greatest int", x.within(GREATEST), 3);
    checks.due("within, no shifts", Checks.of("1", "11").within(GREATEST), 0);
  }

  private static void promise13TurnedMismatches() {
    WildcardMatcher x = Checks.of("12034", "412");
    int[] due = {2, 2, 2, 3, 0};
    for (int i = 0; i < due.length; i++) {
      checks.due("turned " + i, x.turnedMismatches(i), due[i]);
    }
    for (int i : new int[] {-1, -5, 5, 6, 40, LEAST, GREATEST}) {
      checks.due("turned at no turned shift " + i, x.turnedMismatches(i), BAD);
    }
    WildcardMatcher same = Checks.of("1234", "3412");
    int[] dueSame = {4, 4, 0, 4};
    for (int i = 0; i < dueSame.length; i++) {
      checks.due("turned, as long as the text " + i, same.turnedMismatches(i), dueSame[i]);
    }
  }

  private static void fullTextAndPattern() {
    WildcardMatcher x = Checks.of("1".repeat(28) + "2".repeat(12), "2".repeat(12));
    for (int i = 0; i <= 28; i++) {
      int due = i <= 16 ? 12 : 28 - i;
      checks.due("full: mismatches " + i, x.mismatches(i), due);
      checks.due("full: within " + (28 - i), x.within(28 - i), i <= 16 ? 29 : 29 - i);
    }
    checks.due("full: mismatches 29", x.mismatches(29), BAD);
    for (int i = 28; i < 40; i++) {
      checks.due("full: turned " + i, x.turnedMismatches(i), i - 28);
    }
    checks.due("full: turned 40", x.turnedMismatches(40), BAD);
    checks.due("full: matchCount", x.matchCount(), 1);
    checks.due("full: nextMatch", x.nextMatch(LEAST), 28);
    checks.due("full: bestShift", x.bestShift(), 28);
  }
}
