/**
 * What is empty-able, what starts with what, what uses what, and what checking answers: the sentences of "Terms" on
 * them, and of promise 8. None of these can be asked for by itself, so each is seen by what check answers: p is
 * empty-able when (p)* goes round, and A=pA starts with itself just when p is empty-able.
 */
public final class CheckBoundariesTest extends DueAnswers {
  public static void main(String[] args) {
    runAll(CheckBoundariesTest.class);
  }

  /** Whether p is empty-able, asked in both ways. More lines may define the rules B, C and D. */
  private static void dueEmptyable(boolean want, String p, String... more) {
    dueCheck(want ? 3 : 0, lines("A=(" + p + ")*", more));
    dueCheck(want ? 3 : 0, lines("A=(" + p + ")+", more));
    dueStarts(want, p + "A/a", more);
  }

  /** Whether the choice makes A start with itself. */
  private static void dueStarts(boolean want, String choice, String... more) {
    dueCheck(want ? 2 : 0, lines("A=" + choice, more));
  }

  private static String[] lines(String first, String... more) {
    String[] all = new String[more.length + 1];
    all[0] = first;
    System.arraycopy(more, 0, all, 1, more.length);
    return all;
  }

  private static void singlesAreNeverEmptyable() {
    part("EMPTY-ABLE: a letter, digit, dot or [x-y] never");
    for (String p : new String[] {"a", "z", "0", "9", ".", "[a-z]", "[a-a]", "[z-a]"}) dueEmptyable(false, p);
  }

  private static void namesAreEmptyableAsTheirRules() {
    part("EMPTY-ABLE: a name when its rule is defined and its pattern is");
    dueEmptyable(false, "B", "B=b");
    dueEmptyable(true, "B", "B=b?");
    dueEmptyable(true, "B", "B=C", "C=D", "D=d*");
    dueEmptyable(true, "D", "B=b*", "C=B", "D=C");
    dueEmptyable(false, "B", "B=C", "C=D", "D=d+");
    dueCheck(1, "A=B*");
    GrammarMachine m = with("A=B*", "B=b?");
    due("empty-able", m.check(0), 3);
    defineLine(m, "B=b");
    due("not so when it is defined anew", m.check(0), 0);
    m.drop(1);
    due("nor when it is dropped", m.check(0), 1);
  }

  private static void bracketsAreEmptyableAsTheirChoices() {
    part("EMPTY-ABLE: ( choice ) and { choice } when the choice is");
    for (String[] pair : new String[][] {{"(", ")"}, {"{", "}"}}) {
      dueEmptyable(false, pair[0] + "a" + pair[1]);
      dueEmptyable(true, pair[0] + "a?" + pair[1]);
      dueEmptyable(false, pair[0] + "a/b" + pair[1]);
      dueEmptyable(true, pair[0] + "a/b?" + pair[1]);
    }
  }

  private static void emptyBracesAlways() {
    part("EMPTY-ABLE: {} always");
    dueEmptyable(true, "{}");
    dueEmptyable(true, "{}{}");
    dueEmptyable(true, "({})");
    dueEmptyable(true, "{{}}");
    dueCheck(3, "A={}*");
    dueCheck(3, "A={}+");
    dueCheck(0, "A={}?");
    dueCheck(0, "A={}");
  }

  private static void starAndQuestionAlways() {
    part("EMPTY-ABLE: p* and p? always");
    for (String p : new String[] {"a", ".", "[a-z]", "(ab)", "{a}", "B"}) {
      dueEmptyable(true, p + "*", "B=b");
      dueEmptyable(true, p + "?", "B=b");
      dueEmptyable(false, p, "B=b");
    }
    dueEmptyable(true, "{}?");
    dueEmptyable(true, "(a?)?");
  }

  private static void plusWhenItsPartIs() {
    part("EMPTY-ABLE: p+ when p is");
    dueEmptyable(false, "a+");
    dueEmptyable(false, "(a/b)+");
    dueEmptyable(false, "B+", "B=b");
    dueStarts(true, "(b?)+A");
    dueStarts(true, "{}+A");
    dueStarts(true, "B+A", "B=b?");
    dueStarts(false, "b+A/a");
  }

  private static void looksAlways() {
    part("EMPTY-ABLE: an item with & or ! always");
    for (String p : new String[] {"&a", "!a", "!!a", "&.", "![a-z]", "&(ab)", "!{a}", "&a+"}) dueEmptyable(true, p);
    dueEmptyable(false, "&ab");
    dueEmptyable(false, "!ab");
  }

  private static void sequencesWhenAllAre() {
    part("EMPTY-ABLE: a sequence when all its items are");
    dueEmptyable(true, "a?b?c?");
    dueEmptyable(false, "ab?c?");
    dueEmptyable(false, "a?bc?");
    dueEmptyable(false, "a?b?c");
    dueEmptyable(true, "&a{}b*");
    dueEmptyable(false, "abc");
  }

  private static void choicesWhenOneIs() {
    part("EMPTY-ABLE: a choice when one of its sequences is");
    dueEmptyable(true, "(a?/b/c)");
    dueEmptyable(true, "(a/b?/c)");
    dueEmptyable(true, "(a/b/c?)");
    dueEmptyable(false, "(a/b/c)");
    dueEmptyable(false, "(ab?/b?c)");
    dueCheck(3, "A=(a/b/c/d/e/f/{})*");
    dueCheck(0, "A=(a/b/c/d/e/f/g)*");
  }

  private static void onlyWhenItFollows() {
    part("(A rule is only so when that follows from these sentences.)");
    dueEmptyable(false, "B", "B=bB/b");
    dueEmptyable(false, "B", "B=b/cC", "C=B");
    dueEmptyable(false, "B", "B=bB");
    dueEmptyable(true, "B", "B=bB/{}");
    dueEmptyable(true, "B", "B=bB?/C", "C=cB?/d?");
  }

  private static void namesStart() {
    part("A pattern STARTS with the rules: a name with its own");
    dueStarts(true, "A");
    dueStarts(false, "B", "B=b");
    for (char name = 'A'; name <= 'D'; name++) dueCheck(2, name + "=" + name);
    for (char name = 'A'; name <= 'D'; name++) dueCheck(0, name + "=a" + name);
  }

  private static void bracketsAndMarksStart() {
    part("STARTS: ( choice ) and { choice } and p* p+ p? and items with & or ! as what is in them");
    for (String p : new String[] {"(%)", "{%}", "%*", "%+", "%?", "&%", "!%", "!!%", "&(%)", "{(%)?}", "(%)+", "!{%}*"}) {
      dueStarts(true, p.replace("%", "A") + "b");
      dueStarts(true, p.replace("%", "(cd/A)") + "b");
      dueStarts(false, p.replace("%", "a") + "b");
      dueStarts(false, p.replace("%", "(aA/b)") + "b");
    }
    dueStarts(false, "{}b");
  }

  private static void sequencesStart() {
    part("STARTS: a sequence with those of its first item, and with those of every other item when all before it are empty-able");
    dueStarts(true, "Ab");
    dueStarts(false, "bA");
    dueStarts(true, "b?A");
    dueStarts(true, "b?c*{}&dA");
    dueStarts(true, "b?c*{}&dAe");
    dueStarts(false, "bc*{}&dA");
    dueStarts(false, "b?cd*{}A");
    dueStarts(false, "b?c*{}dA");
    dueStarts(true, "b*BA", "B=b?");
    dueStarts(false, "b*BA", "B=b");
    dueStarts(true, "b?B", "B=A");
    dueStarts(false, "bB", "B=A");
  }

  private static void choicesStart() {
    part("STARTS: a choice with those of all its sequences");
    dueStarts(true, "A/b/c");
    dueStarts(true, "b/A/c");
    dueStarts(true, "b/c/A");
    dueStarts(true, "b/c/d/e/f/g/h/i/A");
    dueStarts(false, "b/c/d/e/f/g/h/iA");
    dueStarts(true, "{}/A");
    dueStarts(true, "(b/c/A)d");
    dueStarts(false, "bA/cA/dA");
  }

  private static void uses() {
    part("A rule USES all rules whose names stand in its pattern");
    for (String p : new String[] {"B", "aB", "a/B", "(B)", "{B}", "&B", "!B", "B*", "B+", "B?", "a!(b{c/B?})", "abcdefghijklmnopqB", "a/b/c/d/e/f/g/h/B"}) {
      dueCheck(1, "A=" + p);
      dueCheck(0, "A=" + p, "B=b");
      dueCheck(2, "A=" + p, "B=B");
    }
    for (char name = 'B'; name <= 'D'; name++) {
      dueCheck(1, "A=a" + name);
      dueCheck(0, "A=a" + name, name + "=b");
    }
    dueCheck(1, "A=BCD", "B=b", "C=c");
    dueCheck(1, "A=BCD", "B=b", "D=d");
    dueCheck(1, "A=BCD", "C=c", "D=d");
    dueCheck(0, "A=BCD", "B=b", "C=c", "D=d");
  }

  private static void usesWhatTheseUse() {
    part("A rule USES .. and what these use");
    dueCheck(1, "A=aB", "B=bC", "C=cD");
    dueCheck(0, "A=aB", "B=bC", "C=cD", "D=d");
    dueCheck(1, "D=aC", "C=bB", "B=cA");
    dueCheck(0, "D=aC", "C=bB", "B=cA", "A=d");
    dueCheck(2, "D=aC", "C=bB", "B=cA", "A=A");
    dueCheck(3, "D=aC", "C=bB", "B=cA", "A={}*");
    dueCheck(0, "A=aB", "B=bA");
    dueCheck(1, "A=aB", "B=bA/C");
  }

  private static void firstAnswer() {
    part("CHECKING: 1 when it or a rule that it uses is not defined");
    GrammarMachine m = new GrammarMachine();
    for (int rule = 0; rule < 4; rule++) due("check(" + rule + ") in a new object", m.check(rule), 1);
    dueCheck(1, "A=B");
    dueCheck(1, "A=aA/B");
    GrammarMachine other = with("A=a", "B=C");
    due("what it does not use does not matter", other.check(0) + " " + other.check(1) + " " + other.check(2), "0 1 1");
    other.drop(0);
    due("dropped", other.check(0), 1);
  }

  private static void secondAnswer() {
    part("CHECKING: 2 when it or a rule that it uses starts with itself, directly");
    dueCheck(2, "A=A");
    dueCheck(2, "A=aB", "B=B");
    dueCheck(2, "A=aB", "B=bC", "C=cD", "D=Dd/d");
    dueCheck(0, "A=aA");
    GrammarMachine m = with("A=a", "B=B");
    due("what it does not use does not matter", m.check(0) + " " + m.check(1), "0 2");
  }

  private static void secondAnswerByWayOfOthers() {
    part("CHECKING: 2 .. by way of others (a rule starting with one that starts with another one, and so on)");
    dueCheck(2, "A=B", "B=A");
    dueCheck(2, "A=B", "B=C", "C=A");
    dueCheck(2, "A=B", "B=C", "C=D", "D=A");
    dueCheck(2, "A=D", "D=C", "C=B", "B=A");
    dueCheck(2, "A=B", "B=C", "C=D", "D=B");
    dueCheck(2, "A=xB", "B=C", "C=D", "D=B");
    dueCheck(0, "A=B", "B=C", "C=D", "D=aA");
    dueCheck(0, "A=B", "B=C", "C=cD", "D=A/d");
    dueCheck(0, "A=BCD", "B=CD", "C=D", "D=d");
    dueCheck(2, "A=B", "B=&C", "C=!D", "D=d?A");
    GrammarMachine m = with("A=B", "B=C", "C=D", "D=A");
    for (int rule = 0; rule < 4; rule++) due("check(" + rule + ") in a circle", m.check(rule), 2);
  }

  private static void thirdAnswer() {
    part("CHECKING: 3 when in its pattern or in that of a rule that it uses there is a p* or p+ with p empty-able");
    dueCheck(3, "A=(a?)*");
    dueCheck(3, "A=(a?)+");
    dueCheck(0, "A=(a?)?");
    dueCheck(0, "A=(a)*(b)+");
    for (String p : new String[] {"(%)", "{%}", "%a", "a%", "a/%", "%/a", "&(%)", "!(%)", "(%a)*", "(%a)+", "(%)?", "ab(c/d{e%})"}) {
      dueCheck(3, "A=" + p.replace("%", "(b*)*"));
      dueCheck(3, "A=" + p.replace("%", "{}+"));
      dueCheck(0, "A=" + p.replace("%", "(b)+"));
    }
    dueCheck(3, "A=&(a?)*b");
    dueCheck(3, "A=!{}+b");
    dueCheck(3, "A=B", "B=C", "C=D", "D=a/{}*");
    dueCheck(3, "A=aA?B", "B=A/(b?)+");
    GrammarMachine m = with("A=a", "B={}*");
    due("what it does not use does not matter", m.check(0) + " " + m.check(1), "0 3");
  }

  private static void noAnswerOfThose() {
    part("CHECKING: otherwise 0");
    for (String choice : new String[] {"a", "{}", "a*", "a?b*c+", "aA/b", "!a", "(a(b(c)))", "{a{b}*}*", "a/b/c/d/e/f/g/h/i", "[z-a]*", "abcdefghijklmnopqr"}) {
      dueCheck(0, "A=" + choice);
    }
    dueCheck(0, "A=B", "B=C", "C=D", "D=d");
    dueCheck(0, "A=aB", "B=bC", "C=cD", "D=dA/d");
  }

  private static void firstOfThese() {
    part("CHECKING a rule answers the first of these");
    dueCheck(1, "A=A(a*)*B");
    dueCheck(1, "A=A/B");
    dueCheck(1, "A={}*B");
    dueCheck(2, "A=A{}*");
    dueCheck(1, "A=BCD", "B=B", "C={}*");
    dueCheck(2, "A=BCD", "B=B", "C={}*", "D=d");
    dueCheck(2, "A=DCB", "D={}*", "C=c", "B=B");
    dueCheck(3, "A=BCD", "B=b", "C={}*", "D=d");
    dueCheck(0, "A=BCD", "B=b", "C=c*", "D=d");
  }

  private static void toldApartAndNotMatched() {
    part("Grammars that could go round without taking a character are told apart and not matched.");
    for (String choice : new String[] {"A", "a/A", "b?A", "(a*)*", "{}+", "a(!b)*", "&A"}) {
      GrammarMachine m = with("A=" + choice);
      setText(m, "aaaaaaaaa");
      due(choice + " is told apart", m.check(0) >= 2, true);
      for (int place = 0; place < 10; place++) {
        int at = place;
        dueThrow(choice + " is not matched", STATE, () -> m.match(0, at));
      }
      dueThrow(choice + " is not sought", STATE, () -> m.find(0));
    }
  }

  private static void checkChangesNothing() {
    part("check: Checking a rule, which changes nothing");
    Setup setup = m -> {
      for (String line : new String[] {"A={a}*", "B=B", "C={}+"}) defineLine(m, line);
      setText(m, "aab");
      m.match(0, 0);
      typeAll(m, "D=ab");
    };
    int[] want = {0, 2, 3, 1};
    for (int rule = 0; rule < 4; rule++) {
      int asked = rule;
      dueNoChange("check(" + rule + ")", want[rule], setup, m -> m.check(asked));
    }
  }

  private static void checkThrows() {
    part("check: IndexOutOfBoundsException when rule is not 0 .. 3");
    Setup setup = m -> {
      for (String line : new String[] {"A={a}*", "B=b", "C=c", "D=d"}) defineLine(m, line);
      setText(m, "aab");
      m.match(0, 0);
      typeAll(m, "D=ab");
    };
    for (int rule : new int[] {Integer.MIN_VALUE, -1, 4, 5, 32, Integer.MAX_VALUE}) {
      dueNoChange("check(" + rule + ")", INDEX, setup, m -> m.check(rule));
      dueNoChange("check(" + rule + ") in a new object", INDEX, m -> { }, m -> m.check(rule));
    }
    GrammarMachine m = new GrammarMachine();
    setup.on(m);
    due("check(0), check(3)", m.check(0) + " " + m.check(3), "0 0");
  }
}
