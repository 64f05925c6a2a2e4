/**
 * The calls round matching, and what holds of every call: promises 1, 4, 6 and 7, the sentence of "Terms" on calls that
 * throw, and the 512 calls for which an object is used.
 */
public final class CallBoundariesTest extends DueAnswers {
  private static final int[] NO_RULES = {Integer.MIN_VALUE, -1, 4, 5, Integer.MAX_VALUE};
  private static final int LAST_CALL = 512;

  public static void main(String[] args) {
    runAll(CallBoundariesTest.class);
  }

  /** Rules that check with 0, 2, 3 and 0, a text, a match with captures, and a line that is half typed. */
  private static void inUse(GrammarMachine m) {
    for (String line : new String[] {"A={a}*{b}D?", "B=B", "C={}+", "D=c/{d}"}) defineLine(m, line);
    setText(m, "aabcdefg");
    m.match(0, 0);
    typeAll(m, "C=abcd");
  }

  private static void newHasNoRules() {
    part("A new object: No rule is defined");
    GrammarMachine m = new GrammarMachine();
    for (int rule = 0; rule < 4; rule++) {
      int asked = rule;
      due("check", m.check(rule), 1);
      for (int k = 0; k < 20; k++) due("shown", m.shown(rule, k), (char) 0);
      dueThrow("match", STATE, () -> m.match(asked, 0));
      dueThrow("find", STATE, () -> m.find(asked));
      due("drop", m.drop(rule), false);
    }
  }

  private static void newHasNoLine() {
    part("A new object: line .. empty");
    dueThrow("define", ARGUMENT, () -> new GrammarMachine().define());
    GrammarMachine m = new GrammarMachine();
    due("20 characters have room", typeAll(m, "D=abcdefghijklmnopqr"), true);
    due("and are all there is", m.define() + " " + lineOf(m, 3), "3 D=abcdefghijklmnopqr");
  }

  private static void newHasNoText() {
    part("A new object: .. text .. empty");
    due("clear", new GrammarMachine().clear(), 0);
    GrammarMachine m = with("A={}", "B=.");
    due("the only place", m.match(0, 0), 0);
    dueThrow("another place", INDEX, () -> m.match(0, 1));
    due("nothing stands there", m.find(1), -1);
    due("9 characters have room", m.text(four("abcd")) && m.text(four("efgh")) && m.text('i'), true);
    due("and are all there is", m.clear(), 9);
  }

  private static void newHasNoMatch() {
    part("A new object: there was no match");
    GrammarMachine m = new GrammarMachine();
    due("captures", m.captures(), 0);
    due("farthest", m.farthest(), -1);
    due("tried", m.tried(), 0);
    for (int i = -1; i <= 40; i++) {
      int asked = i;
      dueThrow("capture(" + i + ", 0)", INDEX, () -> m.capture(asked, 0));
      dueThrow("capture(" + i + ", 1)", INDEX, () -> m.capture(asked, 1));
    }
  }

  private static void newIsForItself() {
    part("A new object: whatever was done with others before");
    GrammarMachine alone = new GrammarMachine();
    inUse(alone);
    String want = held(alone);
    GrammarMachine used = new GrammarMachine();
    inUse(used);
    GrammarMachine m = new GrammarMachine();
    due("a new object", stateOf(m), "    1 1 1 1 [] -1 0");
    defineLine(m, "A={.}C");
    defineLine(m, "C=z");
    setText(m, "ihgfedcba");
    m.match(0, 2);
    m.drop(0);
    typeAll(m, "D=xyz*xyz");
    due("the one in use", held(used), want);
  }

  private static void dropDefined() {
    part("drop: A rule is not defined any more: true.");
    for (int rule = 0; rule < 4; rule++) {
      int asked = rule;
      GrammarMachine m = with("A=a", "B=b", "C=c", "D=d");
      due("drop(" + rule + ")", m.drop(rule), true);
      due("check", m.check(rule), 1);
      due("shown", lineOf(m, rule), "");
      dueThrow("match", STATE, () -> m.match(asked, 0));
      for (int other = 0; other < 4; other++) {
        if (other != rule) due("another rule", lineOf(m, other) + " " + m.check(other), "ABCD".charAt(other) + "=" + "abcd".charAt(other) + " 0");
      }
      defineLine(m, "ABCD".charAt(rule) + "=x");
      due("defined again", m.check(rule) + " " + m.drop(rule), "0 true");
    }
    GrammarMachine m = new GrammarMachine();
    inUse(m);
    String told = latestOf(m);
    for (int rule = 0; rule < 4; rule++) m.drop(rule);
    due("the latest match stays", latestOf(m), told);
    due("the line stays", m.define() + " " + lineOf(m, 2), "2 C=abcd");
    due("the text stays", m.clear(), 8);
  }

  private static void dropNotDefined() {
    part("drop: False when it was not.");
    for (int rule = 0; rule < 4; rule++) {
      int asked = rule;
      dueNoChange("drop(" + rule + ") in a new object", false, m -> { }, m -> m.drop(asked));
      dueNoChange("drop(" + rule + ") again", false, m -> {
        inUse(m);
        m.drop(asked);
      }, m -> m.drop(asked));
    }
    dueNoChange("drop of one that a line did not define", false, m -> {
      typeAll(m, "A=)");
      answer(m::define);
    }, m -> m.drop(0));
  }

  private static void dropThrows() {
    part("drop: IndexOutOfBoundsException when rule is not 0 .. 3.");
    for (int rule : NO_RULES) {
      dueNoChange("drop(" + rule + ")", INDEX, CallBoundariesTest::inUse, m -> m.drop(rule));
      dueNoChange("drop(" + rule + ") in a new object", INDEX, m -> { }, m -> m.drop(rule));
    }
  }

  private static void textLimit() {
    part("the TEXT at most 9, whose PLACES are numbered from 0");
    GrammarMachine m = with("A=a", "B=i", "C=!.");
    setText(m, "abcdefghi");
    due("the first place", m.find(0), 0);
    due("the last character", m.find(1), 8);
    due("the end", m.find(2), 9);
    dueThrow("behind the end", INDEX, () -> m.match(0, 10));
    due("a 10th character", m.text('j'), false);
    due("how many", m.clear(), 9);
  }

  private static void dueText(GrammarMachine m, String want) {
    defineLine(m, "D=" + want + "!.");
    due("the text", m.match(3, 0), want.length());
  }

  private static void textTakesBytes() {
    part("text: Characters are put at the end of the text, as by type: true.");
    GrammarMachine m = new GrammarMachine();
    due("one", m.text(0x61), true);
    dueText(m, "a");
    due("two", m.text(0x3062), true);
    dueText(m, "ab0");
    due("four", m.text(0x39383737), true);
    dueText(m, "ab07789");
    due("none", m.text(0), true);
    due("two", m.text(0x797a), true);
    dueText(m, "ab07789zy");
  }

  private static void textStopsAtZero() {
    part("text: .. as by type: up to the first that is 0");
    for (int code : new int[] {0, 1, 31, 'x', 127, 128, 255}) {
      dueNoChange("none before " + code, true, m -> setText(m, "abc"), m -> m.text(code << 8 | code << 16 | code << 24));
      GrammarMachine m = new GrammarMachine();
      due("one before " + code, m.text('a' | code << 16 | code << 24), true);
      due("two before " + code, m.text('b' | 'c' << 8 | code << 24), true);
      due("three", m.text('d' | 'e' << 8 | 'f' << 16), true);
      dueText(m, "abcdef");
    }
    dueNoChange("none in a full text", true, m -> setText(m, "abcdefghi"), m -> m.text(0));
  }

  private static void textHasRoom() {
    part("text: False, changing nothing, when it would have more than 9.");
    for (int length = 0; length <= 9; length++) {
      String text = "abcdefghi".substring(0, length);
      for (int count = 1; count <= 4; count++) {
        int more = four("ihgf".substring(0, count));
        if (length + count > 9) {
          dueNoChange(count + " behind " + length, false, m -> setText(m, text), m -> m.text(more));
        } else {
          GrammarMachine m = new GrammarMachine();
          setText(m, text);
          due(count + " behind " + length, m.text(more), true);
          due("how many there are", m.clear(), length + count);
        }
      }
    }
    GrammarMachine m = new GrammarMachine();
    setText(m, "abcdef");
    due("four are too many", m.text(four("1234")), false);
    due("three are not", m.text(four("567")), true);
    dueText(m, "abcdef567");
    dueNoChange("one in a full text", false, CallBoundariesTest::inUse, x -> x.text(four("hi")));
  }

  private static void textRefusesFirst() {
    part("text: IllegalArgumentException, before that, when one of them is not 32 .. 126.");
    for (int at = 0; at < 4; at++) {
      int others = four("abcd") & ~(255 << 8 * at);
      for (int code = 1; code < 256; code++) {
        int wanted = others | code << 8 * at;
        boolean taken = code >= 32 && code <= 126;
        due("code " + code + " as byte " + at, answer(() -> new GrammarMachine().text(wanted)), taken ? true : ARGUMENT);
      }
      for (int code : new int[] {1, 31, 127, 128, 255}) {
        int wrong = others | code << 8 * at;
        dueNoChange("code " + code + " as byte " + at, ARGUMENT, m -> setText(m, "abc"), m -> m.text(wrong));
        dueNoChange("the same in a full text", ARGUMENT, m -> setText(m, "abcdefghi"), m -> m.text(wrong));
        dueNoChange("the same with too little room", ARGUMENT, m -> setText(m, "abcdef"), m -> m.text(wrong));
      }
    }
  }

  private static void clearAnswers() {
    part("clear: .. how many characters it had");
    GrammarMachine m = new GrammarMachine();
    for (int length = 0; length <= 9; length++) {
      for (int i = 0; i < length; i++) m.text('a' + i);
      due("clear of " + length, m.clear(), length);
      due("clear again", m.clear(), 0);
    }
    setText(m, "abcdefgh");
    m.text(four("ij"));
    answer(() -> m.text(31));
    due("what was refused is not counted", m.clear(), 8);
  }

  private static void clearEmpties() {
    part("clear: The text is empty");
    GrammarMachine m = with("A=.*");
    setText(m, "abcdefghi");
    m.clear();
    due("the only place", m.match(0, 0), 0);
    dueThrow("another place", INDEX, () -> m.match(0, 1));
    due("there is room for 9", m.text(four("abcd")) && m.text(four("efgh")) && m.text('i'), true);
    due("all of it", m.match(0, 0), 9);
  }

  private static void clearLeavesTheRest() {
    part("clear: nothing but the text");
    GrammarMachine m = new GrammarMachine();
    inUse(m);
    String before = stateOf(m);
    due("clear", m.clear(), 8);
    due("rules and latest match", stateOf(m), before);
    due("the line", m.define() + " " + lineOf(m, 2), "2 C=abcd");
    dueNoChange("clear of an empty text", 0, x -> {
      inUse(x);
      x.clear();
    }, GrammarMachine::clear);
  }

  private static void throwingChangesNothing() {
    part("A call that throws changes nothing, unless it is said otherwise");
    Setup setup = CallBoundariesTest::inUse;
    dueNoChange("type", ARGUMENT, setup, m -> m.type(four("abc") | 31 << 24));
    dueNoChange("text", ARGUMENT, setup, m -> m.text('h' | 127 << 8));
    dueNoChange("drop", INDEX, setup, m -> m.drop(4));
    dueNoChange("check", INDEX, setup, m -> m.check(-1));
    dueNoChange("match, rule", INDEX, setup, m -> m.match(-1, 0));
    dueNoChange("match, place", INDEX, setup, m -> m.match(0, 9));
    dueNoChange("match, what starts with itself", STATE, setup, m -> m.match(1, 0));
    dueNoChange("match, what goes round", STATE, setup, m -> m.match(2, 8));
    dueNoChange("find, rule", INDEX, setup, m -> m.find(4));
    dueNoChange("find, what starts with itself", STATE, setup, m -> m.find(1));
    dueNoChange("find, what goes round", STATE, setup, m -> m.find(2));
    dueNoChange("capture, i", INDEX, setup, m -> m.capture(m.captures(), 0));
    dueNoChange("capture, what", INDEX, setup, m -> m.capture(0, 2));
  }

  private static void throwingInANewObject() {
    part("A call that throws changes nothing: in a new object");
    Setup setup = m -> { };
    dueNoChange("type", ARGUMENT, setup, m -> m.type(-1));
    dueNoChange("define", ARGUMENT, setup, GrammarMachine::define);
    dueNoChange("text", ARGUMENT, setup, m -> m.text(-1));
    dueNoChange("drop", INDEX, setup, m -> m.drop(-1));
    dueNoChange("check", INDEX, setup, m -> m.check(4));
    dueNoChange("match", INDEX, setup, m -> m.match(0, 1));
    dueNoChange("match", STATE, setup, m -> m.match(0, 0));
    dueNoChange("find", STATE, setup, m -> m.find(3));
    dueNoChange("capture", INDEX, setup, m -> m.capture(0, 0));
  }

  private static void definingInVainEmptiesTheLine() {
    part("A call that throws changes nothing, unless it is said otherwise: define empties the line, and no more");
    for (String line : new String[] {"", "C", "C=", "C=a/", "C=(((((((a)))))))", "D=x "}) {
      GrammarMachine m = new GrammarMachine();
      inUse(m);
      m.define();
      String before = stateOf(m);
      typeAll(m, line);
      dueThrow("define of " + line, ARGUMENT, m::define);
      due("state after it", stateOf(m), before);
      due("the line after it", typeAll(m, "C=abcdefghijklmnopqr") + " " + m.define(), "true 2");
      due("the text after it", m.clear(), 8);
    }
  }

  private static void firstInTheThrowsClause() {
    part("of several exceptions the one that stands first in the throws clause is thrown");
    for (int rule : NO_RULES) {
      for (int place : new int[] {Integer.MIN_VALUE, -1, 0, 1, Integer.MAX_VALUE}) {
        dueThrow("match(" + rule + ", " + place + ")", INDEX, () -> new GrammarMachine().match(rule, place));
      }
      dueThrow("find(" + rule + ")", INDEX, () -> new GrammarMachine().find(rule));
    }
    for (String choice : new String[] {"B", "A", "{}*"}) {
      for (int place : new int[] {Integer.MIN_VALUE, -1, 1, 9, Integer.MAX_VALUE}) {
        dueThrow("match of " + choice + " at " + place, INDEX, () -> with("A=" + choice).match(0, place));
      }
      dueThrow("match of " + choice + " at 0", STATE, () -> with("A=" + choice).match(0, 0));
    }
  }

  private static void lastCallMatches() {
    part("An object is used for at most 512 calls: the last of them still matches");
    String[] lines = {"A=B1/B2/B3/B4", "B={C1/C2/C3/C4/{}}", "C=D1/D2/D3/D4/{}", "D=.A1/.A2/.A3/{}"};
    GrammarMachine m = with(lines);
    setText(m, "aaaaaaaaa");
    int end = m.match(0, 0);
    int toTell = 3 + 2 * m.captures();
    String told = latestOf(m);
    int calls = 4 + 1 + 1 + toTell;
    for (String line : lines) calls += (line.length() + 3) / 4 + 1;
    for (; calls + 1 + toTell < LAST_CALL; calls++) due("match", m.match(0, 0), end);
    due("match", m.match(0, 0), end);
    due("what is told of it", latestOf(m), told);
  }

  private static void lastCallDefines() {
    part("An object is used for at most 512 calls: the last of them still defines");
    GrammarMachine m = new GrammarMachine();
    String[] lines = {"A={}{}{}{}{}{}{}{}{}", "A=a/b/c/d/e/f/g/h/i", "A=((((((a))))))[a-z]", "A=(((((((a)))))))"};
    for (int calls = 0; calls + 6 <= LAST_CALL; calls += 6) {
      String line = lines[calls / 6 % 4];
      String twenty = line + "a".repeat(20 - line.length());
      due("typing", typeAll(m, twenty), true);
      due("define of " + twenty, answer(m::define), calls / 6 % 4 == 3 ? ARGUMENT : (Object) 0);
    }
  }

  private static void lastCallAfterRefusals() {
    part("An object is used for at most 512 calls: refused ones do no harm");
    GrammarMachine m = with("A=a", "B=B");
    m.text('a');
    for (int calls = 5; calls + 7 < LAST_CALL; calls += 7) {
      dueThrow("type", ARGUMENT, () -> m.type(1));
      dueThrow("define", ARGUMENT, m::define);
      dueThrow("text", ARGUMENT, () -> m.text(1));
      dueThrow("drop", INDEX, () -> m.drop(4));
      dueThrow("match", STATE, () -> m.match(1, 0));
      dueThrow("find", STATE, () -> m.find(1));
      dueThrow("capture", INDEX, () -> m.capture(0, 0));
    }
    due("the last call", m.match(0, 0), 1);
  }
}
