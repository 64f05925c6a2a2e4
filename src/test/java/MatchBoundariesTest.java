/**
 * What matching does, above all at the end of the text, what is captured, and what is told about the latest match: the
 * sentences of "Terms" on MATCHING and CAPTURES, and of promises 9 to 14.
 */
public final class MatchBoundariesTest extends DueAnswers {
  /** Eight captures at one place; five of its name make forty. */
  private static final String EIGHT = "A={}{}{}{}{}{}{}{}";

  public static void main(String[] args) {
    runAll(MatchBoundariesTest.class);
  }

  /** A machine with these lines and a text, at which nothing has been matched yet. */
  private static GrammarMachine ready(String text, String... lines) {
    GrammarMachine m = with(lines);
    setText(m, text);
    return m;
  }

  /** Where a rule ends at each place of a text, from 0 to its length. */
  private static void dueEnds(String text, String want, String... lines) {
    GrammarMachine m = ready(text, lines);
    StringBuilder s = new StringBuilder();
    for (int place = 0; place <= text.length(); place++) s.append(place == 0 ? "" : " ").append(m.match(firstRule(lines), place));
    due(String.join(" ", lines) + " at all places of '" + text + "'", s.toString(), want);
  }

  private static void endsNotBefore() {
    part("MATCHING a pattern at a place of the text either FAILS or ENDS at a place, not before it");
    dueEnds("aba", "1 -1 3 -1", "A=a");
    dueEnds("aba", "0 1 2 3", "A={}");
    dueEnds("aba", "3 3 3 3", "A=.*");
    dueEnds("", "0", "A={}");
    dueEnds("", "-1", "A=a");
  }

  private static void plainCharacters() {
    part("A letter or digit .. ends one place further when that character stands there, otherwise .. it fails.");
    for (char wanted : new char[] {'a', 'z', '0', '9', 'm'}) {
      GrammarMachine m = with("A=" + wanted);
      for (char c = ' '; c <= '~'; c++) {
        setText(m, "" + c);
        due(wanted + " for " + c, m.match(0, 0), c == wanted ? 1 : -1);
      }
    }
    dueEnds("abcdefghi", "-1 -1 -1 -1 -1 -1 -1 -1 9 -1", "A=i");
    dueEnds("aaaaaaaaa", "1 2 3 4 5 6 7 8 9 -1", "A=a");
  }

  private static void endOfText() {
    part("A letter or digit .. (also at the end of the text) .. fails: what stood there before is gone");
    for (String atom : new String[] {"a", ".", "[a-z]"}) {
      GrammarMachine m = ready("aaaaaaaaa", "A=" + atom);
      due(atom + " at the end of a full text", m.match(0, 9), -1);
      setText(m, "aa");
      due(atom + " at the end of a shorter text", m.match(0, 2), -1);
      due(atom + " was tried there", m.farthest(), 2);
      m.clear();
      due(atom + " in an empty text", m.match(0, 0), -1);
      due(atom + " was tried there", m.farthest(), 0);
      m.text('a');
      due(atom + " at the end of one character", m.match(0, 1), -1);
      due(atom + " at that character", m.match(0, 0), 1);
    }
  }

  private static void dots() {
    part("A dot tries it for any character");
    GrammarMachine m = with("A=.");
    for (char c = ' '; c <= '~'; c++) {
      setText(m, "" + c);
      due(". for " + c, m.match(0, 0), 1);
    }
    dueEnds("a.", "1 2 -1", "A=.");
  }

  private static void ranges() {
    part("[x-y] for a character whose code is at least that of x and at most that of y");
    String edges = "09amz";
    for (char low : edges.toCharArray()) {
      for (char high : edges.toCharArray()) {
        GrammarMachine m = with("A=[" + low + "-" + high + "]");
        for (char c = ' '; c <= '~'; c++) {
          setText(m, "" + c);
          due("[" + low + "-" + high + "] for " + c, m.match(0, 0), c >= low && c <= high ? 1 : -1);
        }
      }
    }
  }

  private static void names() {
    part("A name is matched as its rule's pattern.");
    for (String asB : new String[] {"B", "C", "D"}) dueEnds("abaa", "2 -1 3 4 -1", "A=" + asB, "B=ab/a", "C=B", "D=C");
    dueEnds("", "-1", "A=B", "B=.");
    dueEnds("", "0", "A=B", "B={}");
  }

  private static void brackets() {
    part("( choice ) and { choice } as the choice.");
    for (String choice : new String[] {"ab/a", "(ab/a)", "{ab/a}", "({(ab/a)})", "{{ab}/(a)}"}) dueEnds("abaa", "2 -1 3 4 -1", "A=" + choice);
    dueEnds("ab", "-1 -1 -1", "A=(a/ab)!.");
    dueEnds("ab", "-1 -1 -1", "A={a/ab}!.");
  }

  private static void emptyBraces() {
    part("{} ends where it is.");
    dueEnds("ab", "0 1 2", "A={}");
    dueEnds("ab", "2 -1 -1", "A={}a{}b{}");
    dueEnds("", "0", "A={}{}");
    dueFarthest("", -1, "A={}");
  }

  private static void star() {
    part("p* matches p again and again .. until it fails, and ends where it ended last (where it began, if it failed at once).");
    dueEnds("aabaa", "2 2 2 5 5 5", "A=a*");
    dueEnds("", "0", "A=a*");
    dueEnds("aaaaaaaaa", "9 9 9 9 9 9 9 9 9 9", "A=a*");
    dueEnds("abababa", "6 1 6 3 6 5 6 7", "A=(ab)*");
    dueEnds("aaa", "-1 -1 -1 -1", "A=a*a");
    dueEnds("abcdefghi", "8 9 8 9 8 9 8 9 8 9", "A=(..)*");
  }

  private static void plus() {
    part("p+ is p and then p*.");
    dueEnds("aabaa", "2 2 -1 5 5 -1", "A=a+");
    dueEnds("", "-1", "A=a+");
    dueEnds("aaaaaaaaa", "9 9 9 9 9 9 9 9 9 -1", "A=a+");
    dueEnds("ababa", "4 -1 4 -1 -1 -1", "A=(ab)+");
  }

  private static void question() {
    part("p? ends where p does, or where it began when p fails.");
    dueEnds("aab", "1 2 2 3", "A=a?");
    dueEnds("", "0", "A=a?");
    dueEnds("abaa", "2 1 2 3 4", "A=(ab)?");
  }

  private static void looks() {
    part("&p ends where it began when p ends somewhere, and fails when p fails; !p the other way round.");
    dueEnds("aab", "0 1 -1 -1", "A=&a");
    dueEnds("aab", "-1 -1 2 3", "A=!a");
    dueEnds("aab", "-1 -1 -1 3", "A=!.");
    dueEnds("aab", "0 1 2 -1", "A=&.");
    dueEnds("aab", "1 -1 -1 -1", "A=&(aab)a");
    dueEnds("", "0", "A=!.");
    dueEnds("", "0", "A=&{}");
    dueEnds("", "-1", "A=!{}");
    dueEnds("aab", "-1 -1 -1 -1", "A=!a*");
    dueEnds("aab", "0 1 -1 -1", "A=!!a");
  }

  private static void sequences() {
    part("A sequence matches its items one after the other, each where the one before ended, and fails as soon as one does.");
    dueEnds("abcab", "2 -1 -1 5 -1 -1", "A=ab");
    dueEnds("abcab", "-1 -1 3 -1 -1 -1", "A=ca?!b/c");
    dueEnds("abcdefghi", "9 -1 -1 -1 -1 -1 -1 -1 -1 -1", "A=.........");
    dueEnds("abcdefghi", "-1 -1 -1 -1 -1 -1 -1 -1 -1 -1", "A=..........");
    due("what is behind the one that fails is not matched", matched("ab", "A=xB", "B=b").tried(), 1);
    due("nor behind a later one", matched("ab", "A=BxB", "B=a").tried(), 2);
  }

  private static void choices() {
    part("A choice tries its sequences in order and ends as the first does that does not fail; it fails when all do.");
    dueEnds("ab", "1 -1 -1", "A=a/ab");
    dueEnds("ab", "2 -1 -1", "A=ab/a");
    dueEnds("ab", "1 2 2", "A=a/b/{}");
    dueEnds("ab", "0 1 2", "A={}/a/b");
    dueEnds("ab", "-1 -1 -1", "A=(a/ab)!.");
    dueEnds("ab", "-1 -1 -1", "A=c/d/bb");
    due("what is behind the first that does not fail is not matched", matched("a", "A=a/B", "B=a").tried(), 1);
    due("what is in front of it is", matched("a", "A=B/a/C", "B=b", "C=a").tried(), 2);
  }

  private static void captureEnds() {
    part("CAPTURES are made by { choice }, from the place where it began to the one where it ended, and by {}, from its place to the same place.");
    dueCaptures("abcdefghi", "0-9", "A={.*}");
    dueCaptures("", "0-0", "A={.*}");
    dueCaptures("", "0-0", "A={}");
    dueCaptures("ab", "2-2", "A=ab{}");
    dueCaptures("ab", "2-2", "A=ab{c?}");
    dueCaptures("ab", "1-2", "A=a{b}");
    dueCaptures("ab", "1-1", "A=a{&b}b");
    dueCaptures("ab", "1-2", "A=a{c/b/d}");
    GrammarMachine m = ready("abc", "A={bc}");
    m.match(0, 1);
    due("in a match that begins further on", capturesOf(m), "1-3");
  }

  private static void capturesOfWhatFailed() {
    part("Those of a match are those made in it, without those made in what failed (nor in sequences of a choice, or turns of * + ?, that failed)");
    dueCaptures("ab", "0-2", "A={a}c/{b}/{ab}");
    dueCaptures("ab", "0-2", "A={{a}c/ab}");
    dueCaptures("ab", "1-2", "A=({a}c/a){b}");
    dueCaptures("aab", "1-2", "A=({a}.!b/a)*");
    dueCaptures("abac", "0-1 0-1", "A={{a}}b({a}b)*ac");
    dueCaptures("ababac", "0-1 2-3", "A=({a}b)*ac");
    dueCaptures("ababac", "0-1 2-3", "A=({a}b)+ac");
    dueCaptures("ac", "", "A=({a}b)*ac");
    dueCaptures("ac", "", "A=({a}b)+/ac");
    dueCaptures("ac", "0-2", "A=({a}b)?{ac}");
    dueCaptures("ac", "", "A=(B)?ac", "B={}{a}b");
    dueCaptures("ac", "", "A=({}{a}b)?ac");
    dueCaptures("ac", "", "A={a}{b}");
    dueCaptures("ac", "", "A={}x");
    dueCaptures("ab", "0-2 0-1", "A=Bc/{Bb}", "B={a}");
  }

  private static void capturesOfLooks() {
    part("and without those made within an item with & or !");
    dueCaptures("ab", "0-1", "A=&{ab}{a}");
    dueCaptures("ab", "0-1", "A=!{b}{a}");
    dueCaptures("ab", "0-1", "A=!!{ab}{a}");
    dueCaptures("ab", "0-1", "A=&&{ab}{a}");
    dueCaptures("ab", "0-0 0-1", "A={&{ab}}{a}");
    dueCaptures("ab", "0-1", "A=&({}{}{})B", "B={a}");
    dueCaptures("ab", "0-1", "A=&B!C{a}", "B={}{ab}", "C={}{b}");
    dueCaptures("ab", "0-1 1-1", "A={a}&{b}{}b");
    dueCaptures("ab", "0-0", "A={}!{c}");
  }

  private static void captureOrder() {
    part("They are in the order in which they began; of several that began at the same place the one further out, or that was begun earlier, comes first.");
    dueCaptures("abc", "0-1 1-2 2-3", "A={a}{b}{c}");
    dueCaptures("abc", "0-3 0-2 0-1 2-3", "A={{{a}b}{c}}");
    dueCaptures("abc", "0-3 1-3 2-3", "A={a{b{c}}}");
    dueCaptures("abc", "0-0 0-3 0-0 0-1", "A={}{{}{a}bc}");
    dueCaptures("abc", "0-0 0-1 1-1 1-2", "A={}{a}{}{b}");
    dueCaptures("abc", "0-1 1-3 1-2", "A=B{C.}", "B={a}", "C={b}");
    dueCaptures("aab", "0-3 1-3 2-3", "A={(aA/b)}");
  }

  private static void dueKept(int want, String... lines) {
    GrammarMachine m = matched("z", lines);
    due(String.join(" ", lines) + " keeps", m.captures(), want);
    dueThrow("there is no more", INDEX, () -> m.capture(want, 0));
    due("the last of them begins", answer(() -> m.capture(want - 1, 0)), 0);
  }

  private static void firstForty() {
    part("Only the first 40 are kept.");
    dueKept(39, "B=AAAA{}{}{}{}{}{}{}", EIGHT);
    dueKept(40, "B=AAAAA", EIGHT);
    dueKept(40, "B=AAAAA{}", EIGHT);
    dueKept(40, "B=AAAAAAAAAAAAAAAAAA", EIGHT);
    dueKept(40, "C=BBBBBBBBBBBBBBBBBB", "B=AAAAAAAAAAAAAAAAAA", EIGHT);
    GrammarMachine m = matched("z", "B=C{.}", "C={}{}{}{}{}{}AAAA", EIGHT);
    due("the 39th of 39", m.captures() + " " + captureOf(m, 38), "39 0-1");
    m = matched("z", "B=C{.}", "C={}{}{}{}{}{}{}AAAA", EIGHT);
    due("the 40th of 40", m.captures() + " " + captureOf(m, 39), "40 0-1");
    m = matched("z", "B={AAAAA.}", EIGHT);
    due("one that began first and ends last", captureOf(m, 0), "0-1");
    due("the 40th of 41", m.captures() + " " + captureOf(m, 39), "40 0-0");
    m = matched("z", "B=C{.}", "C=AAAAA", EIGHT);
    due("the 41st of 41 is not kept", m.captures() + " " + captureOf(m, 39), "40 0-0");
    m = matched("z", "B=C{.{}}", "C={}{}{}{}{}{}{}AAAA", EIGHT);
    due("the 40th ends after the 41st began", m.captures() + " " + captureOf(m, 39), "40 0-1");
  }

  private static void fortyAndWhatFailed() {
    part("Only the first 40 are kept: of those of the match, not of what failed");
    dueCaptures("zy", "0-1 1-2", "B={.}(AAAAAAx)?{.}", EIGHT);
    dueCaptures("zy", "0-1 1-2", "B={.}(AAAAAAx)*{.}", EIGHT);
    dueCaptures("zy", "0-1 1-2", "B={.}&(AAAAAA){.}", EIGHT);
    dueCaptures("zy", "0-1 1-2", "B={.}!(AAAAAAx){.}", EIGHT);
    dueCaptures("zy", "0-1 1-1 1-2", "B={.}(AAAAAAx/{}){.}", EIGHT);
    dueCaptures("zy", "0-1 1-2", "B={.}C?{.}", "C=AAAAAAx", EIGHT);
    GrammarMachine m = matched("zy", "B=AAAAA(Ax/.){}", EIGHT);
    due("what failed behind the 40th", m.captures() + " " + captureOf(m, 39), "40 0-0");
    m = matched("zy", "B=C(Ax/{..})", "C={}{}{}{}{}{}{}AAAA", EIGHT);
    due("the 40th is made behind what failed", m.captures() + " " + captureOf(m, 39), "40 0-2");
    m = matched("zy", "B=AAAAAx", EIGHT);
    due("a match that failed with 40", m.captures(), 0);
  }

  private static void matchAnswers() {
    part("match: A rule's pattern is matched at a place of the text: where it ends");
    dueEnds("abcdefghi", "9 9 9 9 9 9 9 9 9 9", "D=.*");
    dueEnds("abcdefghi", "0 1 2 3 4 5 6 7 8 9", "C={}");
    dueEnds("", "0", "B=.*");
    GrammarMachine m = ready("ab", "A=a", "B=b", "C=ab", "D={}");
    due("each rule for itself", m.match(0, 0) + " " + m.match(1, 0) + " " + m.match(2, 0) + " " + m.match(3, 0), "1 -1 2 0");
    due("the text stays", m.match(2, 0) + " " + m.clear(), "2 2");
  }

  private static void matchFails() {
    part("match: -1 when it fails (there are no captures then). (farthest() and tried() are of it all the same ..)");
    GrammarMachine m = ready("aab", "A={a}{a}Bx", "B={b}");
    due("a match that ends", m.match(1, 2), 3);
    due("what is told of it", latestOf(m), "[2-3] -1 1");
    due("a match that fails", m.match(0, 0), -1);
    due("what is told of that", latestOf(m), "[] 3 2");
    due("one that fails at once", m.match(1, 0), -1);
    due("what is told of that", latestOf(m), "[] 0 1");
  }

  private static void matchThrowsIndex() {
    part("match: IndexOutOfBoundsException when rule is not 0 .. 3 or place not 0 .. the length of the text");
    for (String text : new String[] {"", "a", "aaaaaaaaa"}) {
      Setup setup = m -> {
        for (String line : new String[] {"A={a}*", "B={a}*", "C={a}*", "D={a}*"}) defineLine(m, line);
        setText(m, text);
        m.match(0, 0);
      };
      int end = text.length();
      GrammarMachine m = new GrammarMachine();
      setup.on(m);
      for (int rule = 0; rule < 4; rule++) due("match at both ends", m.match(rule, 0) + " " + m.match(rule, end), end + " " + end);
      for (int rule : new int[] {Integer.MIN_VALUE, -1, 4, Integer.MAX_VALUE}) {
        dueNoChange("match(" + rule + ", 0)", INDEX, setup, x -> x.match(rule, 0));
      }
      for (int place : new int[] {Integer.MIN_VALUE, -1, end + 1, 10, Integer.MAX_VALUE}) {
        for (int rule = 0; rule < 4; rule += 3) {
          int asked = rule;
          dueNoChange("match(" + rule + ", " + place + ")", INDEX, setup, x -> x.match(asked, place));
        }
      }
    }
  }

  private static void matchThrowsState() {
    part("match: IllegalStateException when checking the rule does not answer 0");
    Setup setup = m -> {
      for (String line : new String[] {"A={a}*", "B=aD", "C=(a?)*"}) defineLine(m, line);
      setText(m, "ab");
      m.match(0, 0);
    };
    for (int rule = 1; rule < 4; rule++) {
      for (int place = 0; place < 3; place++) {
        int asked = rule;
        int at = place;
        dueNoChange("match(" + rule + ", " + place + ")", STATE, setup, x -> x.match(asked, at));
      }
    }
    GrammarMachine m = ready("a", "A=a/B", "B=B", "C=a", "D=!(a?)*a");
    dueThrow("what uses one that starts with itself", STATE, () -> m.match(0, 0));
    dueThrow("what starts with itself", STATE, () -> m.match(1, 0));
    dueThrow("what goes round, if it would be matched or not", STATE, () -> m.match(3, 0));
    due("a rule that uses neither", m.match(2, 0), 1);
    defineLine(m, "B=b");
    due("when the other one is mended", m.match(0, 0), 1);
    m.drop(1);
    dueThrow("when the other one is dropped", STATE, () -> m.match(0, 0));
  }

  private static void matchThrowsIndexFirst() {
    part("of several exceptions the one that stands first in the throws clause is thrown: match");
    Setup setup = m -> setText(m, "ab");
    for (int rule : new int[] {-1, 4}) {
      for (int place : new int[] {-1, 0, 2, 3}) dueNoChange("match(" + rule + ", " + place + ")", INDEX, setup, m -> m.match(rule, place));
    }
    for (int rule = 0; rule < 4; rule++) {
      int asked = rule;
      for (int place : new int[] {-1, 3}) dueNoChange("not defined, at " + place, INDEX, setup, m -> m.match(asked, place));
      for (int place : new int[] {0, 2}) dueNoChange("not defined, at " + place, STATE, setup, m -> m.match(asked, place));
    }
  }

  private static void whatThrowsIsNoMatch() {
    part("match: what throws is no match");
    GrammarMachine none = ready("ab", "A=a", "B=B");
    dueThrow("match(1, 0)", STATE, () -> none.match(1, 0));
    dueThrow("match(0, 3)", INDEX, () -> none.match(0, 3));
    dueThrow("match(4, 0)", INDEX, () -> none.match(4, 0));
    dueThrow("find(1)", STATE, () -> none.find(1));
    dueThrow("find(4)", INDEX, () -> none.find(4));
    due("there was no match", latestOf(none), "[] -1 0");
    GrammarMachine one = ready("ab", "A={.}C", "B=B", "C=c");
    one.match(0, 0);
    dueThrow("match(1, 0)", STATE, () -> one.match(1, 0));
    dueThrow("match(0, 3)", INDEX, () -> one.match(0, 3));
    dueThrow("find(1)", STATE, () -> one.find(1));
    due("the match before is the latest", latestOf(one), "[] 1 2");
  }

  private static void findPlaces() {
    part("find: A rule's pattern is matched at the places 0, 1, .. the length of the text until it does not fail: that place; -1 when it fails at all.");
    String text = "abcdefghi";
    for (int place = 0; place < 9; place++) due("find of one character", ready(text, "A=" + text.charAt(place)).find(0), place);
    due("only at the end", ready(text, "B=!.").find(1), 9);
    due("nowhere", ready(text, "C=z").find(2), -1);
    due("everywhere", ready(text, "D={}").find(3), 0);
    due("the first of several", ready("bababa", "A=a").find(0), 1);
    due("an empty text", ready("", "A={}").find(0), 0);
    due("an empty text, nowhere", ready("", "A=.").find(0), -1);
    due("no text behind the end", ready("ab", "A=!.a").find(0), -1);
  }

  private static void findIsOfTheLast() {
    part("find: The latest match is the one made last. (captures(), farthest(), tried() are of that alone.)");
    GrammarMachine m = ready("aabb", "A={a}Bb", "B={b}", "C={b}c", "D=!.{}");
    due("found", m.find(0), 1);
    due("what is told", latestOf(m), "[1-2 2-3] -1 2");
    due("not found", m.find(2), -1);
    due("what is told", latestOf(m), "[] 4 1");
    due("found at the end", m.find(3), 4);
    due("what is told", latestOf(m), "[4-4] 4 1");
    due("found, then matched elsewhere", m.find(1) + " " + m.match(1, 0), "2 -1");
    due("the match after it is the latest", latestOf(m), "[] 0 1");
    m.clear();
    due("not found in an empty text", m.find(0), -1);
    due("what is told", latestOf(m), "[] 0 1");
  }

  private static void findThrows() {
    part("find: IndexOutOfBoundsException when rule is not 0 .. 3; IllegalStateException when checking the rule does not answer 0.");
    Setup setup = m -> {
      for (String line : new String[] {"A={a}*", "B=aD", "C=(a?)*"}) defineLine(m, line);
      setText(m, "ab");
      m.match(0, 0);
    };
    for (int rule : new int[] {Integer.MIN_VALUE, -1, 4, Integer.MAX_VALUE}) {
      dueNoChange("find(" + rule + ")", INDEX, setup, m -> m.find(rule));
      dueNoChange("find(" + rule + ") in a new object", INDEX, m -> { }, m -> m.find(rule));
    }
    for (int rule = 1; rule < 4; rule++) {
      int asked = rule;
      dueNoChange("find(" + rule + ")", STATE, setup, m -> m.find(asked));
    }
    for (int rule = 0; rule < 4; rule++) {
      int asked = rule;
      dueNoChange("find(" + rule + ") in a new object", STATE, m -> { }, m -> m.find(asked));
      due("find of a defined one", ready("ba", (char) ('A' + rule) + "=a").find(rule), 1);
    }
    due("what starts with itself", answer(() -> ready("a", "A=A").find(0)), STATE);
  }

  private static void capturesCount() {
    part("captures: How many captures of the latest match are kept; 0 when there was none.");
    GrammarMachine m = new GrammarMachine();
    due("no match", m.captures(), 0);
    defineLine(m, "A={.}*");
    due("no match, but a rule", m.captures(), 0);
    for (int count = 0; count <= 9; count++) {
      setText(m, "abcdefghi".substring(0, count));
      m.match(0, 0);
      due("as many as characters", m.captures(), count);
    }
    m.match(0, 9);
    due("of the latest alone", m.captures(), 0);
  }

  private static void capturesStay() {
    part("captures: (They stay when text or rules change.)");
    GrammarMachine m = ready("abc", "A={a}{bc}B", "B={}", "C=c");
    m.match(0, 0);
    String told = "[0-1 1-3 3-3] -1 2";
    due("the match", latestOf(m), told);
    m.clear();
    due("after clear", latestOf(m), told);
    m.text(four("xyz"));
    due("after text", latestOf(m), told);
    m.type(four("B=x"));
    due("after type", latestOf(m), told);
    m.define();
    due("after define", latestOf(m), told);
    m.drop(0);
    due("after drop", latestOf(m), told);
    m.check(1);
    due("after check", latestOf(m), told);
    m.drop(1);
    m.drop(2);
    due("after all rules are dropped", latestOf(m), told);
    dueThrow("define", ARGUMENT, m::define);
    due("after a define that threw", latestOf(m), told);
  }

  private static void captureAnswers() {
    part("capture: Where capture i (from 0) of the latest match begins (what = 0) or ends (what = 1).");
    GrammarMachine m = matched("abcd", "A=a{b}{{c}d}{}");
    due("all", capturesOf(m), "1-2 2-4 2-3 4-4");
    GrammarMachine forty = matched("a", "B=.AAAAA", EIGHT);
    due("the first of 40", captureOf(forty, 0), "1-1");
    due("the last of 40", captureOf(forty, 39), "1-1");
  }

  private static void captureThrows() {
    part("capture: IndexOutOfBoundsException when there is no such capture, or what is another number.");
    Setup two = m -> {
      defineLine(m, "A={a}{b}");
      setText(m, "ab");
      m.match(0, 0);
    };
    for (int i : new int[] {Integer.MIN_VALUE, -1, 2, 3, 39, 40, Integer.MAX_VALUE}) {
      for (int what = 0; what < 2; what++) {
        int asked = what;
        dueNoChange("capture(" + i + ", " + what + ")", INDEX, two, m -> m.capture(i, asked));
      }
    }
    for (int what : new int[] {Integer.MIN_VALUE, -1, 2, 256, Integer.MAX_VALUE}) {
      for (int i = -1; i < 3; i++) {
        int asked = i;
        dueNoChange("capture(" + i + ", " + what + ")", INDEX, two, m -> m.capture(asked, what));
      }
    }
    dueNoChange("no match", INDEX, m -> { }, m -> m.capture(0, 0));
    dueThrow("a match without captures", INDEX, () -> matched("a", "A=a").capture(0, 0));
    dueThrow("a match that failed", INDEX, () -> matched("a", "A={a}b").capture(0, 1));
    GrammarMachine fewer = matched("ab", "A={a}{b}", "B={a}");
    fewer.match(1, 0);
    dueThrow("one of the match before", INDEX, () -> fewer.capture(1, 0));
    GrammarMachine forty = matched("", "B=AAAAAA", EIGHT);
    due("the 40th", forty.capture(39, 0), 0);
    dueThrow("the 41st", INDEX, () -> forty.capture(40, 0));
  }

  private static void farthestPlaces() {
    part("farthest: The greatest place that was tried in the latest match by something that failed there");
    dueFarthest("abcdefghi", 0, "A=b");
    dueFarthest("abcdefghi", 8, "A=abcdefghh");
    dueFarthest("abcdefghi", 9, "A=abcdefghia");
    dueFarthest("abcdefghi", 9, "A=.*");
    dueFarthest("", 0, "A=a?");
    dueFarthest("abc", 2, "A=abd/b/a");
    dueFarthest("abc", 1, "A=b/ac/abc");
    dueFarthest("abc", 2, "A=!(abb)a");
    dueFarthest("abc", 2, "A=&(abb?)a");
    dueFarthest("abc", 2, "A=B?a", "B=abb");
    dueFarthest("abc", 2, "A=ab[d-z]");
    dueFarthest("abc", 2, "A=(abb)*a");
    GrammarMachine m = ready("aaaa", "A=b");
    m.match(0, 3);
    due("in a match that begins further on", m.farthest(), 3);
    m.match(0, 4);
    due("at the end of the text", m.farthest(), 4);
  }

  private static void farthestNone() {
    part("farthest: -1 when there was none");
    due("no match", new GrammarMachine().farthest(), -1);
    dueFarthest("abc", -1, "A=abc");
    dueFarthest("abc", -1, "A={}");
    dueFarthest("abc", -1, "A=&(abc)a/x");
    dueFarthest("abc", -1, "A=!(abc)");
    dueFarthest("abc", -1, "A=!B", "B=.[b-c]");
    dueFarthest("abc", -1, "A=a?b/x");
  }

  private static void farthestOfLatest() {
    part("farthest: .. in the latest match");
    GrammarMachine m = ready("abc", "A=abd", "B=x", "C=abc", "D=D");
    due("match", m.match(0, 0) + " " + m.farthest(), "-1 2");
    dueThrow("no match", STATE, () -> m.match(3, 0));
    due("after what throws", m.farthest(), 2);
    due("a match that fails sooner", m.match(1, 0) + " " + m.farthest(), "-1 0");
    due("a match in which nothing fails", m.match(2, 0) + " " + m.farthest(), "3 -1");
  }

  private static void triedPairs() {
    part("tried: For how many pairs of a rule and a place the rule's pattern was matched there in the latest match, the one that was asked for included");
    dueTried("a", 1, "A=a");
    dueTried("b", 1, "A=a");
    dueTried("", 1, "A={}");
    dueTried("b", 2, "A=B", "B=a");
    dueTried("b", 4, "A=BCD", "B={}", "C={}", "D=d");
    dueTried("b", 3, "A=BCD", "B={}", "C=c", "D={}");
    dueTried("ab", 3, "A=&B!C.", "B=a", "C=b");
    dueTried("ab", 2, "A=!B/C", "B=b", "C=a");
    dueTried("aaaaaaaaa", 11, "A=B*", "B=a");
    dueTried("aaaaaaaaa", 10, "A=aA/{}");
    dueTried("aaaaaaaaa", 40, "A=BCD(.A)?", "B=C?b?", "C=D?c?", "D={}");
    GrammarMachine m = ready("aaaaaaaaa", "A=aA/{}");
    m.match(0, 9);
    due("at the end of the text", m.tried(), 1);
    m.match(0, 4);
    due("in the middle", m.tried(), 6);
  }

  private static void triedOnce() {
    part("tried: each pair counted once");
    dueTried("a", 2, "A=BBBBB", "B={}");
    dueTried("a", 2, "A=Bx/By/B", "B=a");
    dueTried("a", 2, "A=&B!!BB", "B=a");
    dueTried("a", 3, "A=B/C/B", "B=C", "C=b");
    dueTried("aa", 3, "A=B(x/B)/B", "B=a");
    dueTried("aaaaaaaaa", 40, "A=B1/B2/B3/B4", "B=C1/C2/C3/C4", "C=D1/D2/D3/D4", "D=.A1/.A2/.A3/.A4");
  }

  private static void triedNone() {
    part("tried: 0 when there was no match");
    GrammarMachine m = new GrammarMachine();
    due("a new object", m.tried(), 0);
    defineLine(m, "A=a");
    setText(m, "a");
    m.check(0);
    due("a rule and a text, but no match", m.tried(), 0);
    dueThrow("match", INDEX, () -> m.match(0, 2));
    due("after what throws", m.tried(), 0);
    m.match(0, 0);
    due("after a match", m.tried(), 1);
    m.drop(0);
    m.clear();
    due("it stays", m.tried(), 1);
  }
}
