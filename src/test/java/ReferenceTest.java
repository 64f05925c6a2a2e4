import java.util.Map;
import java.util.Objects;
import java.util.Random;
import java.util.TreeMap;

/** Runs of made-up calls, each answered by GrammarMachine and by the model. The seeds are fixed. */
public final class ReferenceTest {
  /** An object is used for 512 calls at most; what is made at one go, a match and a look at its 40 captures, has 84. */
  private static final int CALLS_BEFORE_LAST_GO = 512 - 84;

  /**
   * What the lines of a run are made of. Atoms are picked from a row of letters: a (a letter or digit), . (a dot), [ (a
   * range), N (any name), L (the name of a later rule), E ({}), ( and {. One in so many items ends its sequence, has & or !
   * in front, or * + ? behind. Rules whose sequences begin with dots, or that name later ones, can mostly be matched.
   */
  record Taste(int runs, String atoms, String letters, int depth, boolean dotsFirst, int endOneIn, int lookOneIn,
      int markOneIn, String characters) {
  }

  private static final Taste[] TASTES = {
    new Taste(1000, "aaa.[aNNE(({{", "aabbc1", 3, false, 4, 7, 4, "aaaabbbbcd1~"),
    new Taste(1000, "EEEEEEEELLLLLLLLLL{{{{.", "", 3, false, 12, 30, 30, "aaaab"),
    new Taste(900, "..NNNNNN(a", "ab", 2, true, 4, 30, 2, "aaaaaab"),
    new Taste(200, "aE(({{{(", "ab", 9, false, 4, 20, 10, "ab"),
    new Taste(200, "[[[a.{", "az09", 1, false, 4, 5, 4, " /09:@AZ`az{~"),
  };

  private static final Map<String, Integer> seen = new TreeMap<>();
  private static int wrong = 0;

  public static void main(String[] args) {
    for (int i = 0; i < TASTES.length; i++) {
      for (int run = 0; run < TASTES[i].runs() && wrong < 20; run++) oneRun(TASTES[i], 10000 * i + run);
    }
    System.out.println(seen);
    boolean thin = false;
    for (String what : new String[] {"matches", "failed matches", "refused matches", "captures", "40 captures kept",
        "more than 20 pairs", "nothing failed", "defined", "refused", "refused as too deep", "check 0", "check 1", "check 2",
        "check 3"}) {
      if (seen.getOrDefault(what, 0) >= 300) continue;
      thin = true;
      System.out.println("too few to tell anything: " + what);
    }
    System.out.println(wrong == 0 ? "all answers are as due" : wrong + " answers are not as due");
    if (wrong != 0 || thin) System.exit(1);
  }

  interface Call {
    Object run();
  }

  private static Object answer(Call call) {
    try {
      return call.run();
    } catch (RuntimeException e) {
      return e.getClass().getSimpleName();
    }
  }

  private static void count(String what, boolean so) {
    if (so) seen.merge(what, 1, Integer::sum);
  }

  /** One object and its model, and the calls that they got so far. */
  private static final class Pair {
    final GrammarMachine x = new GrammarMachine();
    final Model y = new Model();
    final StringBuilder calls = new StringBuilder();
    final Taste taste;
    final int seed;
    final Random random;
    int made = 0;

    Pair(Taste taste, int seed) {
      this.taste = taste;
      this.seed = seed;
      this.random = new Random(seed);
    }

    Object compare(String call, Call real, Call model) {
      made++;
      Object want = answer(model);
      Object got = answer(real);
      calls.append(call).append(" -> ").append(want).append('\n');
      if (!Objects.equals(got, want)) {
        wrong++;
        System.out.println("run " + seed + ": " + call + " answered " + got + ", due is " + want + ", after\n" + calls);
      }
      return want;
    }

    boolean oneIn(int n) {
      return n > 0 && random.nextInt(n) == 0;
    }

    char oneOf(String s) {
      return s.charAt(random.nextInt(s.length()));
    }
  }

  private static void oneRun(Taste taste, int seed) {
    Pair p = new Pair(taste, seed);
    try {
      for (int rule = 0; rule < 4; rule++) defineLine(p, rule);
      while (p.made <= CALLS_BEFORE_LAST_GO && wrong < 20) someCalls(p);
      count("runs", true);
    } catch (Model.TooLong e) {
      count("runs cut short", true);
    }
  }

  private static void someCalls(Pair p) {
    Random random = p.random;
    int rule = p.oneIn(50) ? random.nextInt(9) - 3 : random.nextInt(4);
    switch (random.nextInt(16)) {
      case 0: case 1: case 2:
        defineLine(p, random.nextInt(4));
        break;
      case 3:
        if (p.oneIn(4)) p.compare("drop(" + rule + ")", () -> p.x.drop(rule), () -> p.y.drop(rule));
        break;
      case 4: {
        int k = random.nextInt(24) - 2;
        p.compare("shown(" + rule + ", " + k + ")", () -> p.x.shown(rule, k), () -> p.y.shown(rule, k));
        break;
      }
      case 5: case 6: {
        int four = p.oneIn(20) ? random.nextInt() : someText(p);
        p.compare("text(" + four + ")", () -> p.x.text(four), () -> p.y.text(four));
        break;
      }
      case 7:
        if (p.oneIn(3)) p.compare("clear()", p.x::clear, p.y::clear);
        break;
      case 8:
        count("check " + p.compare("check(" + rule + ")", () -> p.x.check(rule), () -> p.y.check(rule)), true);
        break;
      case 9: case 10: case 11: {
        int place = p.oneIn(20) ? random.nextInt(14) - 2 : random.nextInt(p.y.text.length() + 1);
        String call = "match(" + rule + ", " + place + ")";
        lookAtMatch(p, p.compare(call, () -> p.x.match(rule, place), () -> p.y.match(rule, place)));
        break;
      }
      case 12: case 13:
        lookAtMatch(p, p.compare("find(" + rule + ")", () -> p.x.find(rule), () -> p.y.find(rule)));
        break;
      case 14:
        lookAtCapture(p, random.nextInt(45) - 2, p.oneIn(8) ? random.nextInt(6) - 2 : random.nextInt(2));
        break;
      default:
        if (p.oneIn(4)) typeFour(p, p.oneIn(4) ? random.nextInt() : someText(p));
        break;
    }
  }

  private static void typeFour(Pair p, int four) {
    p.compare("type(" + four + ")", () -> p.x.type(four), () -> p.y.type(four));
  }

  private static void lookAtCapture(Pair p, int i, int what) {
    p.compare("capture(" + i + ", " + what + ")", () -> p.x.capture(i, what), () -> p.y.capture(i, what));
  }

  private static void lookAtMatch(Pair p, Object answer) {
    p.compare("farthest()", p.x::farthest, p.y::farthest);
    p.compare("tried()", p.x::tried, p.y::tried);
    int captures = (Integer) p.compare("captures()", p.x::captures, p.y::captures);
    for (int i = 0; i < captures; i++) {
      lookAtCapture(p, i, 0);
      lookAtCapture(p, i, 1);
    }
    boolean matched = answer instanceof Integer;
    count(matched ? "matches" : "refused matches", true);
    count("failed matches", matched && (Integer) answer == -1);
    count("nothing failed", matched && p.y.farthest() == -1);
    count("captures", matched && captures > 0);
    count("40 captures kept", matched && captures == 40);
    count("more than 20 pairs", matched && p.y.tried() > 20);
  }

  private static void defineLine(Pair p, int rule) {
    String line = someLine(p, rule);
    if (p.oneIn(6)) line = spoilt(p, line);
    for (int at = 0; at < line.length();) {
      int size = Math.min(line.length() - at, p.random.nextInt(4) + 1);
      typeFour(p, DueAnswers.four(line.substring(at, at + size)));
      at += size;
    }
    p.calls.append("  (that is ").append(line).append(")\n");
    Object answer = p.compare("define()", p.x::define, p.y::define);
    count(answer instanceof Integer ? "defined" : "refused", true);
    count("refused as too deep", p.y.refusedAsTooDeep);
  }

  private static int someText(Pair p) {
    StringBuilder s = new StringBuilder();
    int size = p.random.nextInt(5);
    for (int i = 0; i < size; i++) s.append(p.oneOf(p.taste.characters()));
    return DueAnswers.four(s.toString());
  }

  private static String spoilt(Pair p, String line) {
    int at = p.random.nextInt(line.length());
    char mark = p.oneOf("ABCDEabz09.[]-(){}*+?&!/= ");
    switch (p.random.nextInt(3)) {
      case 0: return line.substring(0, at) + mark + line.substring(at + 1);
      case 1: return line.substring(0, at) + line.substring(at + 1);
      default: return line.substring(0, at) + mark + line.substring(at);
    }
  }

  private static String someLine(Pair p, int rule) {
    return (char) ('A' + rule) + "=" + someChoice(p, rule, p.random.nextInt(p.taste.depth() + 1), 18);
  }

  /** A choice of at most so many characters as there is room for, at least one. */
  private static String someChoice(Pair p, int rule, int depth, int room) {
    StringBuilder s = new StringBuilder();
    boolean first = true;
    do {
      if (!first && p.oneIn(p.taste.endOneIn()) && s.length() < room - 1) {
        s.append('/');
        first = true;
      }
      if (first && p.taste.dotsFirst() && s.length() < room - 1) s.append('.');
      s.append(someItem(p, rule, depth, room - s.length()));
      first = false;
    } while (s.length() < room && !p.oneIn(p.taste.endOneIn()));
    return s.toString();
  }

  private static String someItem(Pair p, int rule, int depth, int room) {
    StringBuilder s = new StringBuilder();
    while (s.length() < room - 1 && p.oneIn(p.taste.lookOneIn())) s.append(p.oneOf("&!"));
    s.append(someAtom(p, rule, depth, room - s.length()));
    if (s.length() < room && p.oneIn(p.taste.markOneIn())) s.append(p.oneOf("*+?"));
    return s.toString();
  }

  private static String someAtom(Pair p, int rule, int depth, int room) {
    for (int i = 0; i < 10; i++) {
      String atom = atomOfKind(p.oneOf(p.taste.atoms()), p, rule, depth, room);
      if (!atom.isEmpty()) return atom;
    }
    return ".";
  }

  /** Nothing when there is no room for that kind, no depth, or no such rule. */
  private static String atomOfKind(char kind, Pair p, int rule, int depth, int room) {
    boolean inside = depth > 0 && room >= 3;
    switch (kind) {
      case '.': return ".";
      case 'N': return "" + p.oneOf("ABCD");
      case 'L': return rule < 3 ? "" + p.oneOf("ABCD".substring(rule + 1)) : "";
      case 'E': return room >= 2 ? "{}" : "";
      case '[': return room >= 5 ? "[" + p.oneOf("ab09z") + "-" + p.oneOf("bcz9a") + "]" : "";
      case '(': return inside ? "(" + someChoice(p, rule, depth - 1, room - 2) + ")" : "";
      case '{': return inside ? "{" + someChoice(p, rule, depth - 1, room - 2) + "}" : "";
      default: return "" + p.oneOf(p.taste.letters());
    }
  }
}
