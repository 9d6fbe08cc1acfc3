import java.util.ArrayList;
import java.util.List;

// Long mixed runs, each answer against the words of the document told again over lists.
// The calls come from a fixed sequence of numbers, so that every run of this test is the same.
public final class ModelTest {
  private static final int RUNS = 4000;
  private static final int CALLS = 512;
  private static final int[] ODD = {Integer.MIN_VALUE, Integer.MIN_VALUE + 1, -41, -2, -1, 5, 12, 13, 39, 40, 41,
      Integer.MAX_VALUE - 1, Integer.MAX_VALUE};

  private final Checks checks;
  private final WildcardMatcher x = new WildcardMatcher();
  private final List<Integer> text = new ArrayList<>();
  private final List<Integer> pattern = new ArrayList<>();
  private final int run;
  // What a run leans to: few kinds of letters give many matches, a low share of shortening gives full rows.
  private final int kinds;
  private final int growth;
  private long state;

  private ModelTest(Checks checks, int run) {
    this.checks = checks;
    this.run = run;
    this.state = run * 7919L + 17;
    this.kinds = 2 + pick(4);
    this.growth = 1 + pick(5);
  }

  public static void main(String[] args) {
    Checks checks = new Checks();
    for (int run = 0; run < RUNS; run++) {
      ModelTest test = new ModelTest(checks, run);
      for (int call = 0; call < CALLS; call++) {
        test.oneCall(call);
      }
    }
    checks.finish();
  }

  private int pick(int bound) {
    state = state * 6364136223846793005L + 1442695040888963407L;
    return (int) ((state >>> 33) % bound);
  }

  private int pickNumber(int usual) {
    return pick(12) == 0 ? ODD[pick(ODD.length)] : pick(usual + 2) - 1;
  }

  private int pickLetter() {
    return pick(20) == 0 ? ODD[pick(ODD.length)] : pick(kinds);
  }

  private void oneCall(int call) {
    boolean side = pick(3) == 0;
    List<Integer> row = side ? pattern : text;
    String name = "run " + run + ", call " + call + ", text " + text + ", pattern " + pattern + ": ";
    switch (pick(12 + growth)) {
      case 0 -> shorten(name, side, row);
      case 1 -> replace(name, side, row);
      case 2 -> letter(name, side, row);
      case 3 -> checks.due(name + "length " + side, x.length(side), row.size());
      case 4 -> matches(name);
      case 5 -> checks.due(name + "matchCount", x.matchCount(), within(0));
      case 6 -> nextMatch(name);
      case 7 -> mismatches(name);
      case 8 -> bestShift(name);
      case 9 -> withinCall(name);
      case 10 -> turnedMismatches(name);
      default -> type(name, side, row);
    }
  }

  private void type(String name, boolean side, List<Integer> row) {
    int letter = pickLetter();
    int want;
    if (row.size() == (side ? 12 : 40)) {
      want = -1;
    } else if (letter < 0 || letter > 4) {
      want = -2;
    } else {
      row.add(letter);
      want = row.size();
    }
    checks.due(name + "type " + side + " " + letter, x.type(side, letter), want);
  }

  private void replace(String name, boolean side, List<Integer> row) {
    int i = pickNumber(row.size());
    int letter = pickLetter();
    boolean want = i >= 0 && i < row.size() && letter >= 0 && letter <= 4;
    if (want) {
      row.set(i, letter);
    }
    checks.due(name + "replace " + side + " " + i + " " + letter, x.replace(side, i, letter), want);
  }

  private void shorten(String name, boolean side, List<Integer> row) {
    int want = -2;
    if (!row.isEmpty()) {
      row.remove(0);
      want = row.size();
    }
    checks.due(name + "shorten " + side, x.shorten(side), want);
  }

  private void letter(String name, boolean side, List<Integer> row) {
    int i = pickNumber(row.size());
    int want = i >= 0 && i < row.size() ? row.get(i) : -2;
    checks.due(name + "letter " + side + " " + i, x.letter(side, i), want);
  }

  private void matches(String name) {
    int i = pickNumber(text.size());
    checks.due(name + "matches " + i, x.matches(i), isShift(i) && count(i) == 0);
  }

  private void nextMatch(String name) {
    int from = pickNumber(text.size());
    int want = -3;
    for (int i = text.size(); i >= 0; i--) {
      if (isShift(i) && i >= from && count(i) == 0) {
        want = i;
      }
    }
    checks.due(name + "nextMatch " + from, x.nextMatch(from), want);
  }

  private void mismatches(String name) {
    int i = pickNumber(text.size());
    checks.due(name + "mismatches " + i, x.mismatches(i), isShift(i) ? count(i) : -2);
  }

  private void bestShift(String name) {
    int want = -3;
    for (int i = text.size(); i >= 0; i--) {
      if (isShift(i) && (want == -3 || count(i) <= count(want))) {
        want = i;
      }
    }
    checks.due(name + "bestShift", x.bestShift(), want);
  }

  private void withinCall(String name) {
    int k = pickNumber(pattern.size());
    checks.due(name + "within " + k, x.within(k), within(k));
  }

  private void turnedMismatches(String name) {
    int i = pickNumber(text.size());
    boolean exists = text.size() >= 1 && pattern.size() <= text.size() && i >= 0 && i <= text.size() - 1;
    checks.due(name + "turnedMismatches " + i, x.turnedMismatches(i), exists ? count(i) : -2);
  }

  private boolean isShift(int i) {
    return i >= 0 && i <= text.size() - pattern.size();
  }

  private int within(int k) {
    int found = 0;
    for (int i = 0; i <= text.size() - pattern.size(); i++) {
      found += count(i) <= k ? 1 : 0;
    }
    return found;
  }

  private int count(int i) {
    int count = 0;
    for (int j = 0; j < pattern.size(); j++) {
      int a = text.get((i + j) % text.size());
      int b = pattern.get(j);
      count += a != b && a * b != 0 ? 1 : 0;
    }
    return count;
  }
}
