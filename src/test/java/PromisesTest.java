/** The promises of the document, each by hand: ordinary inputs, the edges that are named, wrong inputs. */
public final class PromisesTest extends DueAnswers {
  public static void main(String[] args) {
    runAll(PromisesTest.class);
  }

  private static void example() {
    part("the example of README.md");
    GrammarMachine machine = new GrammarMachine();
    machine.type('A' | '=' << 8 | '{' << 16 | 'a' << 24);
    machine.type('}' | '*' << 8 | 'B' << 16);
    due("define()", machine.define(), 0);
    due("check(0)", machine.check(0), 1);
    machine.type('B' | '=' << 8 | 'b' << 16);
    due("define()", machine.define(), 1);
    due("check(0)", machine.check(0), 0);
    machine.text('a' | 'a' << 8 | 'b' << 16);
    due("match(0, 0)", machine.match(0, 0), 3);
    due("captures()", machine.captures(), 2);
    due("capture(1, 0)", machine.capture(1, 0), 1);
    due("capture(1, 1)", machine.capture(1, 1), 2);
    due("farthest()", machine.farthest(), 2);
    due("tried()", machine.tried(), 2);
    due("find(1)", machine.find(1), 2);
  }

  private static void throwsChangeNothing() {
    part("terms");
    GrammarMachine m = with("A={a}*b", "B=C");
    setText(m, "aab");
    m.match(0, 0);
    String before = stateOf(m);
    dueThrow("type", ARGUMENT, () -> m.type(1));
    dueThrow("text", ARGUMENT, () -> m.text(127));
    dueThrow("define", ARGUMENT, () -> m.define());
    dueThrow("drop", INDEX, () -> m.drop(4));
    dueThrow("check", INDEX, () -> m.check(-1));
    dueThrow("match", INDEX, () -> m.match(0, 4));
    dueThrow("match", STATE, () -> m.match(1, 0));
    dueThrow("find", INDEX, () -> m.find(4));
    dueThrow("find", STATE, () -> m.find(1));
    dueThrow("capture", INDEX, () -> m.capture(2, 0));
    due("state after throws", stateOf(m), before);
    due("text after throws", m.clear(), 3);
  }

  private static void newObject() {
    part("promise 1");
    GrammarMachine m = new GrammarMachine();
    for (int rule = 0; rule < 4; rule++) {
      due("shown", m.shown(rule, 0), (char) 0);
      due("check", m.check(rule), 1);
      due("drop", m.drop(rule), false);
    }
    due("captures", m.captures(), 0);
    due("farthest", m.farthest(), -1);
    due("tried", m.tried(), 0);
    due("clear", m.clear(), 0);
    dueThrow("capture", INDEX, () -> m.capture(0, 0));
    dueThrow("define", ARGUMENT, () -> m.define());
    GrammarMachine first = with("A=a");
    due("check of another new object", new GrammarMachine().check(0), 1);
    due("check of the first object", first.check(0), 0);
  }

  private static void type() {
    part("promise 2");
    GrammarMachine m = new GrammarMachine();
    due("none", m.type(0), true);
    due("none, whatever is behind", m.type(0xff010200), true);
    due("three", m.type(four("A=a")), true);
    due("one, whatever is behind a 0", m.type(0x1f7f0000 | 'b'), true);
    due("four", m.type(four("cdef")), true);
    due("define", m.define(), 0);
    due("the line", lineOf(m, 0), "A=abcdef");

    typeAll(m, "B=345678901234567");
    due("more than 20", m.type(four("abcd")), false);
    dueThrow("a wrong one, though it would be more than 20", ARGUMENT, () -> m.type(four("abc") | 31 << 24));
    dueThrow("a wrong one in front", ARGUMENT, () -> m.type(31));
    dueThrow("127", ARGUMENT, () -> m.type(127));
    dueThrow("128, the highest bit of four", ARGUMENT, () -> m.type(four("abc") | 128 << 24));
    dueThrow("255", ARGUMENT, () -> m.type(-1));
    dueThrow("a wrong one in the middle puts nothing", ARGUMENT, () -> m.type('a' | 10 << 8));
    due("up to 20", m.type(four("xyz")), true);
    due("one more", m.type('a'), false);
    due("none in a full line", m.type(0), true);
    dueThrow("a wrong one in a full line", ARGUMENT, () -> m.type(200));
    due("define", m.define(), 1);
    due("the line", lineOf(m, 1), "B=345678901234567xyz");

    due("a blank and ~ are characters", m.type(' ' | '~' << 8), true);
    dueThrow("but define nothing", ARGUMENT, () -> m.define());
    due("typing changes no text", m.clear(), 0);
  }

  private static void define() {
    part("promise 3");
    for (String name : new String[] {"A", "B", "C", "D"}) dueDefined(name + "=a");
    for (String choice : new String[] {"z", "0", "9", ".", "[a-z]", "[0-9]", "[z-a]", "[5-x]", "A", "D", "(a)", "{a}", "{}",
        "a*", "a+", "a?", "&a", "!a", "&!&!!a", "!a*", "a/b", "a/b/c", "ab/cd", "(a/b)c", "{a/b}*", "{}{}", "{}*", "({})",
        "(((a)))", "{{a}}", "!(a)?", "[a-b]+", ".*", "A?/B", "a!b", "&{}", "(a)(b){c}[d-e].f"}) {
      dueDefined("A=" + choice);
    }
    GrammarMachine m = with("A=a", "B=b");
    setText(m, "xy");
    due("a rule defined again", defineLine(m, "A=x"), 0);
    due("the new line", lineOf(m, 0), "A=x");
    due("the new pattern", m.match(0, 0), 1);
    due("the other line", lineOf(m, 1), "B=b");
  }

  private static void defineRefuses() {
    part("promise 3, refused");
    for (String line : new String[] {"", "A", "A=", "=a", "a=a", "E=a", "A=E", "@=a", "A:a", "Aa", "AA=a", "A==a", "A=a=",
        " A=a", "A =a", "A= a", "A=a ", "A=a b", "A=/", "A=a/", "A=/a", "A=a//b", "A=*", "A=+a", "A=?", "A=a**", "A=a*+", "A=a??",
        "A=&", "A=!", "A=a&", "A=a!", "A=&/a", "A=a!*", "A=()", "A=(", "A=)", "A=(a", "A=a)", "A=((a)", "A=(a))", "A=(a/)",
        "A=(/a)", "A={", "A=}", "A={a", "A=a}", "A={a)", "A=(a}", "A={/}", "A={}}", "A={{}", "A={ }", "A=(*a)", "A=[", "A=[a",
        "A=[a-", "A=[a-b", "A=[a-]", "A=[-b]", "A=[ab]", "A=[a]", "A=[]", "A=[A-D]", "A=[a-B]", "A=[.-z]", "A=[a-z", "A=[a--z]",
        "A=]", "A=-", "A=a-b", "A=#", "A=`", "A=~", "A=\"", "A=Aa/E", "A=a|b", "A=^a", "A=a\\", "A=,", "A=:", "A=@", "A=$"}) {
      dueRefused(line);
    }
  }

  private static void defineLimitsDepth() {
    part("promise 3, depth");
    dueDefined("A=((((((a))))))");
    dueDefined("B={{{{{{a}}}}}}");
    dueDefined("C=({({({a})})})");
    dueDefined("D=((((({})))))");
    dueDefined("A=((((([a-z])))))B");
    dueDefined("A=(a)(b)(c)(d)(e)(f)");
    dueDefined("A={}{}{}{}{}{}{}{}{}");
    dueRefused("A=(((((((a)))))))");
    dueRefused("A={{{{{{{a}}}}}}}");
    dueRefused("A=(((((({}))))))");
    dueRefused("A=(((((a({(b)}))))))");
    dueRefused("A={{{{{{(a)}}}}}}");
  }

  private static void drop() {
    part("promise 4");
    GrammarMachine m = with("A=a", "D=d");
    dueThrow("drop(-1)", INDEX, () -> m.drop(-1));
    dueThrow("drop(4)", INDEX, () -> m.drop(4));
    due("drop of another rule", m.drop(1), false);
    due("drop(0)", m.drop(0), true);
    due("drop(0) again", m.drop(0), false);
    due("the dropped rule", m.check(0), 1);
    due("the dropped line", m.shown(0, 0), (char) 0);
    due("the rule kept", lineOf(m, 3), "D=d");
    due("drop(3)", m.drop(3), true);
    due("defined after that", defineLine(m, "A=b"), 0);
    due("the line after that", lineOf(m, 0), "A=b");
    due("drop after that", m.drop(0), true);
  }

  private static void shown() {
    part("promise 5");
    GrammarMachine m = with("B=a/(bc)*", "D=345678901234567abc");
    due("the first", m.shown(1, 0), 'B');
    due("the second", m.shown(1, 1), '=');
    due("the last", m.shown(1, 8), '*');
    due("behind the last", m.shown(1, 9), (char) 0);
    due("the last of 20", m.shown(3, 19), 'c');
    due("behind the last of 20", m.shown(3, 20), (char) 0);
    due("before the first", m.shown(3, -1), (char) 0);
    due("far off", m.shown(1, Integer.MAX_VALUE), (char) 0);
    due("far before", m.shown(1, Integer.MIN_VALUE), (char) 0);
    for (int rule : new int[] {0, 2, 4, -1, Integer.MAX_VALUE, Integer.MIN_VALUE}) {
      due("no such rule " + rule, m.shown(rule, 0), (char) 0);
      due("no such rule " + rule, m.shown(rule, 20), (char) 0);
    }
    defineLine(m, "D=x");
    due("a shorter line", lineOf(m, 3), "D=x");
    due("nothing is left of the longer one", m.shown(3, 10), (char) 0);
    typeAll(m, "B=)");
    dueThrow("define", ARGUMENT, () -> m.define());
    due("after a define that threw", lineOf(m, 1), "B=a/(bc)*");
  }

  private static void text() {
    part("promise 6");
    GrammarMachine m = new GrammarMachine();
    due("none", m.text(0), true);
    due("none, whatever is behind", m.text(0x80ff0100), true);
    due("still none", m.clear(), 0);
    due("four", m.text(four("wxyz")), true);
    due("three", m.text(0x00333231), true);
    due("more than 9", m.text(four("abc")), false);
    dueThrow("a wrong one, though it would be more than 9", ARGUMENT, () -> m.text(four("abc") | 127 << 24));
    dueThrow("31", ARGUMENT, () -> m.text(31));
    dueThrow("-1", ARGUMENT, () -> m.text(-1));
    due("up to 9", m.text(0xff000000 | four("45")), true);
    due("one more", m.text('a'), false);
    due("none in a full text", m.text(0), true);
    defineLine(m, "C=wxyz12345!.");
    due("the text is as put", m.match(2, 0), 9);
    setText(m, " ~");
    defineLine(m, "C=..!.");
    due("a blank and ~ are characters", m.match(2, 0), 2);
    due("putting text leaves the line alone", m.type('A'), true);
    m.text('x');
    due("and the line goes on", m.type(four("=q")), true);
    due("define", m.define(), 0);
  }

  private static void clear() {
    part("promise 7");
    GrammarMachine m = with("A={.}*");
    setText(m, "abcdefghi");
    m.match(0, 0);
    String before = stateOf(m);
    due("clear", m.clear(), 9);
    due("state after clear", stateOf(m), before);
    due("clear again", m.clear(), 0);
    due("the text is empty", m.match(0, 0), 0);
    due("text after clear", m.text(four("xy")), true);
    due("the new text alone", m.match(0, 0), 2);
    due("clear", m.clear(), 2);
    typeAll(m, "B=b");
    m.clear();
    due("the line stays", m.define(), 1);
  }

  private static void checkFindsUndefined() {
    part("promise 8, not defined");
    GrammarMachine m = new GrammarMachine();
    dueThrow("check(-1)", INDEX, () -> m.check(-1));
    dueThrow("check(4)", INDEX, () -> m.check(4));
    dueCheck(0, "A=a");
    dueCheck(1, "A=B");
    dueCheck(1, "A=a/B");
    dueCheck(1, "A=!(x{B?})");
    dueCheck(1, "A=aB", "B=bC", "C=cD");
    dueCheck(0, "A=aB", "B=bC", "C=cD", "D=d");
    dueCheck(0, "D=dC", "C=cB", "B=bA", "A=a");
    dueCheck(0, "A=a", "B=C");
    GrammarMachine dropped = with("A=aB", "B=b");
    due("check before drop", dropped.check(0), 0);
    dropped.drop(1);
    due("check after drop", dropped.check(0), 1);
  }

  private static void checkFindsLeftRecursion() {
    part("promise 8, starts with itself");
    dueCheck(2, "A=A");
    dueCheck(2, "A=Aa/a");
    dueCheck(2, "A=a/Aa");
    dueCheck(0, "A=aA/a");
    dueCheck(2, "A=b?A");
    dueCheck(2, "A=b*A");
    dueCheck(0, "A=b+A/b");
    dueCheck(2, "A=(b?)+A");
    dueCheck(2, "A={}A");
    dueCheck(2, "A=&bA");
    dueCheck(2, "A=!bA");
    dueCheck(2, "A=!Ab");
    dueCheck(2, "A=&Ab");
    dueCheck(2, "A=(b/c?)A");
    dueCheck(0, "A=(b/c)A/d");
    dueCheck(2, "A=(A)");
    dueCheck(2, "A={A}");
    dueCheck(2, "A=A*");
    dueCheck(2, "A=A+");
    dueCheck(2, "A=A?");
    dueCheck(0, "A=(a?b)A/c");
    dueCheck(2, "A=(a?b?)A/c");
    dueCheck(2, "A=B", "B=A");
    dueCheck(2, "A=B", "B=C", "C=D", "D=A");
    dueCheck(0, "A=B", "B=C", "C=D", "D=dA/d");
    dueCheck(2, "A=aB", "B=B");
    dueCheck(2, "A=aB", "B=bC", "C=c?D", "D=!DA");
    dueCheck(0, "A=a", "B=B");
    dueCheck(2, "A=BA", "B=b?");
    dueCheck(0, "A=BA/a", "B=b");
    dueCheck(2, "A=BCDA", "B=b?", "C=c*", "D={}");
    dueCheck(0, "A=BCDA/a", "B=b?", "C=c+", "D={}");
    dueCheck(2, "A=DA", "B=b?", "C=B", "D=C");
    dueCheck(2, "A=BA", "D=d?", "C=D", "B=C");
    part("promise 8, empty-able only as it follows");
    dueCheck(0, "A=B", "B=bB/bC", "C=cC/c");
    dueCheck(2, "A=BA", "B=B/b");
  }

  private static void checkFindsRounds() {
    part("promise 8, goes round");
    dueCheck(0, "A=a*");
    dueCheck(3, "A=(a*)*");
    dueCheck(3, "A=(a*)+");
    dueCheck(0, "A=(a*)?");
    dueCheck(3, "A=(a?)*");
    dueCheck(0, "A=(a?b)*");
    dueCheck(3, "A=(a?b?)*");
    dueCheck(3, "A=(a/b?)*");
    dueCheck(3, "A={}*");
    dueCheck(3, "A={}+");
    dueCheck(0, "A={}?");
    dueCheck(3, "A={a?}*");
    dueCheck(3, "A=(&a)*");
    dueCheck(3, "A=(!a)+");
    dueCheck(0, "A=(!ab)*");
    dueCheck(3, "A=((a+)?)+");
    dueCheck(0, "A=(a+)+");
    dueCheck(3, "A=x(y/{z!({}*)})");
    dueCheck(3, "A=a/b/{}*");
    dueCheck(3, "A=((({}*)?)?)?");
    dueCheck(3, "A=((a*)*b)*");
    dueCheck(3, "A=B*", "B=b?");
    dueCheck(0, "A=B*", "B=b");
    dueCheck(3, "A=aB", "B=bC", "C=c(d*)*");
    dueCheck(0, "A=a", "B=(b*)*");
    dueCheck(3, "A=D+", "D=C", "C=B", "B={}");
    dueCheck(3, "A=B+", "B=C", "C=D", "D=&a");
  }

  private static void checkOrder() {
    part("promise 8, the first of these");
    dueCheck(1, "A=A(a*)*B");
    dueCheck(2, "A=A(a*)*");
    dueCheck(2, "A={}*B", "B=B");
    dueCheck(1, "A=A/b{}*C", "C=D");
    GrammarMachine m = with("A=a*", "B=(a*)*", "C=C", "D=xA");
    due("each rule for itself", m.check(0) + " " + m.check(1) + " " + m.check(2) + " " + m.check(3), "0 3 2 0");
    defineLine(m, "A=B");
    due("after a change", m.check(3), 3);
  }

  private static void matchAtoms() {
    part("promise 9, atoms");
    dueMatch("a", 0, 1, "A=a");
    dueMatch("b", 0, -1, "A=a");
    dueMatch("", 0, -1, "A=a");
    dueMatch("ba", 1, 2, "B=a");
    dueMatch("ba", 2, -1, "B=a");
    dueMatch("7", 0, 1, "A=7");
    dueMatch("A", 0, -1, "A=a");
    dueMatch(" ", 0, 1, "A=.");
    dueMatch("~", 0, 1, "A=.");
    dueMatch("", 0, -1, "A=.");
    dueMatch("b", 0, 1, "A=[b-d]");
    dueMatch("d", 0, 1, "A=[b-d]");
    dueMatch("a", 0, -1, "A=[b-d]");
    dueMatch("e", 0, -1, "A=[b-d]");
    dueMatch("c", 0, 1, "A=[c-c]");
    dueMatch("c", 0, -1, "A=[d-b]");
    dueMatch("X", 0, 1, "A=[9-a]");
    dueMatch("", 0, -1, "A=[a-z]");
    dueMatch("", 0, 0, "A={}");
    dueMatch("ab", 1, 1, "A={}");
    dueMatch("ab", 0, 2, "A=(a){b}");
    dueMatch("ab", 0, -1, "A=(a){a}");
  }

  private static void matchRepeats() {
    part("promise 9, * + ?");
    dueMatch("aaab", 0, 3, "A=a*");
    dueMatch("b", 0, 0, "A=a*");
    dueMatch("", 0, 0, "A=a*");
    dueMatch("aaaaaaaaa", 0, 9, "A=a*");
    dueMatch("aaab", 1, 3, "A=a+");
    dueMatch("b", 0, -1, "A=a+");
    dueMatch("aaaaaaaaa", 0, 9, "A=a+");
    dueMatch("aa", 0, 1, "A=a?");
    dueMatch("b", 0, 0, "A=a?");
    dueMatch("aaa", 0, -1, "A=a*a");
    dueMatch("ababac", 0, 4, "A=(ab)*");
    dueMatch("ababac", 0, 6, "A=(ab)*ac");
    dueMatch("ab", 0, -1, "A=(a/ab)*!.");
  }

  private static void matchLooks() {
    part("promise 9, & !");
    dueMatch("ab", 0, 0, "A=&a");
    dueMatch("ab", 0, -1, "A=&b");
    dueMatch("ab", 0, -1, "A=!a");
    dueMatch("ab", 0, 0, "A=!b");
    dueMatch("ab", 0, 1, "A=&(ab)a");
    dueMatch("ab", 0, 0, "A=!!a");
    dueMatch("ab", 0, -1, "A=!!b");
    dueMatch("ab", 0, -1, "A=!!!a");
    dueMatch("ab", 0, 0, "A=&!&!&a");
    dueMatch("ab", 0, -1, "A=&!&a");
    dueMatch("ab", 2, 2, "A=!.");
    dueMatch("aab", 0, 0, "A=&a*");
    dueMatch("aab", 0, -1, "A=!a*");
  }

  private static void matchChoicesAndRules() {
    part("promise 9, choices and rules");
    dueMatch("ab", 0, 1, "A=a/ab");
    dueMatch("ab", 0, 2, "A=ab/a");
    dueMatch("ac", 0, 1, "A=ab/a");
    dueMatch("c", 0, -1, "A=a/b");
    dueMatch("ab", 0, -1, "A=(a/ab)!.");
    dueMatch("aabb", 0, 4, "A=aA?b");
    dueMatch("aab", 0, -1, "A=aA?b");
    dueMatch("((1))", 0, -1, "A=B", "B=[0-9]/aBb");
    dueMatch("aa1bb", 0, 5, "A=B", "B=[0-9]/aBb");
    dueMatch("1a2b", 0, 3, "A=B(CB)*", "B=[0-9]", "C=[a-z]");
    dueMatch("dcba", 0, 4, "D=dC", "C=cB", "B=bA", "A=a");
    dueMatch("aabbcc", 0, 6, "A=&(Bc)a+C!.", "B=aB?b", "C=bC?c");
    dueMatch("aabbc", 0, -1, "A=&(Bc)a+C!.", "B=aB?b", "C=bC?c");
    dueMatch("aaa", 0, 3, "A=aAa/a");
    dueMatch("aaaa", 0, 1, "A=aAa/a");
  }

  private static void matchThrows() {
    part("promise 9, throws");
    GrammarMachine m = with("A=a", "B=B", "C={}*");
    setText(m, "aa");
    due("at the end of the text", m.match(0, 2), -1);
    dueThrow("place -1", INDEX, () -> m.match(0, -1));
    dueThrow("place 3", INDEX, () -> m.match(0, 3));
    dueThrow("rule -1", INDEX, () -> m.match(-1, 0));
    dueThrow("rule 4", INDEX, () -> m.match(4, 0));
    dueThrow("rule not defined", STATE, () -> m.match(3, 0));
    dueThrow("rule that starts with itself", STATE, () -> m.match(1, 0));
    dueThrow("rule that goes round", STATE, () -> m.match(2, 0));
    dueThrow("both: place first", INDEX, () -> m.match(3, 3));
    dueThrow("both: place first", INDEX, () -> m.match(1, -1));
    dueThrow("far off", INDEX, () -> m.match(Integer.MIN_VALUE, Integer.MAX_VALUE));

    due("a match", m.match(0, 1), 2);
    dueThrow("no match", STATE, () -> m.match(3, 0));
    due("what throws is no match", m.tried(), 1);
    m.clear();
    due("in an empty text", m.match(0, 0), -1);
  }

  private static void find() {
    part("promise 10");
    GrammarMachine m = with("A={b}c/B", "B=zz", "C=C", "D={}");
    setText(m, "abbc");
    due("find", m.find(0), 2);
    due("captures of the last match", capturesOf(m), "2-3");
    due("farthest of the last match", m.farthest(), -1);
    due("tried of the last match", m.tried(), 1);
    due("find that fails", m.find(1), -1);
    due("captures of a failed one", m.captures(), 0);
    due("farthest of the match at the end", m.farthest(), 4);
    due("tried of the match at the end", m.tried(), 1);
    due("what matches nothing", m.find(3), 0);
    due("its captures", capturesOf(m), "0-0");
    setText(m, "ab");
    defineLine(m, "A=!.");
    due("the end of the text", m.find(0), 2);
    m.clear();
    due("an empty text", m.find(0), 0);
    due("an empty text, failing", m.find(1), -1);
    due("farthest in it", m.farthest(), 0);
    String before = stateOf(m);
    dueThrow("rule -1", INDEX, () -> m.find(-1));
    dueThrow("rule 4", INDEX, () -> m.find(4));
    dueThrow("rule that starts with itself", STATE, () -> m.find(2));
    m.drop(3);
    dueThrow("rule not defined", STATE, () -> m.find(3));
    defineLine(m, "D={}");
    due("what throws is no match", stateOf(m), before);
    setText(m, "aab");
    defineLine(m, "A=ab");
    due("the first place that does", m.find(0), 1);
    due("match is the latest then", m.match(0, 0) + " " + m.farthest(), "-1 1");
  }

  private static void captures() {
    part("promise 11");
    dueCaptures("abc", "0-3", "A={abc}");
    dueCaptures("abc", "0-1 1-2 2-3", "A={.}*");
    dueCaptures("abc", "0-1 2-3", "A={a}b{c}");
    dueCaptures("abc", "0-3 0-1 1-3 2-3", "A={{a}{b{c}}}");
    dueCaptures("abc", "0-0 0-3 0-0 0-3", "A={}{{}{abc}}");
    dueCaptures("ab", "0-2 0-2 0-1 1-2", "A={{{a}{b}}}");
    dueCaptures("ab", "2-2", "A=ab{}");
    dueCaptures("ab", "0-1 1-2 1-2", "A={B}{C}", "B=a", "C={b}");
    dueCaptures("aab", "0-3 1-3 2-3", "A={(aA/b)}");
    dueCaptures("ab", "0-0", "A={c?}ab");
    dueCaptures("abc", "", "A=abc");
    GrammarMachine m = with("A={a}{b}");
    due("no match", m.captures(), 0);
    setText(m, "ab");
    m.match(0, 0);
    m.match(0, 0);
    due("of the latest match alone", capturesOf(m), "0-1 1-2");
    m.clear();
    m.text('x');
    defineLine(m, "A={x}");
    m.drop(0);
    due("they stay", capturesOf(m), "0-1 1-2");
    defineLine(m, "A={y}");
    due("a match that fails", m.match(0, 0), -1);
    due("has none", m.captures(), 0);
  }

  private static void capturesTakenBack() {
    part("promise 11, taken back");
    dueCaptures("ab", "0-1 1-2", "A={a}c/{a}{b}");
    dueCaptures("ab", "", "A={a}c/ab");
    dueCaptures("abac", "0-1", "A=({a}b)*a");
    dueCaptures("abac", "0-1", "A=({a}b)+a");
    dueCaptures("ac", "", "A=({a}b)?a");
    dueCaptures("ac", "", "A=({a}b)+/ac");
    dueCaptures("ab", "0-2", "A=&{a}{ab}");
    dueCaptures("ab", "0-2", "A=!{b}{ab}");
    dueCaptures("ab", "0-2", "A=!!{a}{ab}");
    dueCaptures("ab", "0-2", "A=!({a}c){ab}");
    dueCaptures("ab", "0-2", "A=!B{ab}", "B={a}c");
    dueCaptures("ab", "0-2", "A=&B{ab}", "B={a}");
    dueCaptures("ab", "0-2 0-1", "A=Bc/{Bb}", "B={a}");
    dueCaptures("ab", "0-2", "A=B/{ab}", "B={a}c");
    dueCaptures("ab", "0-2", "A={{a}c/{b}/ab}");
    dueCaptures("ab", "", "A={a}{c}");
    dueCaptures("ab", "0-1", "A={(a/{b}c)}(!{b}/b)");
  }

  private static void capturesKept() {
    part("promise 11, the first 40");
    GrammarMachine m = matched("z", "B=AAAA{.}", "A={}{}{}{}{}{}{}{}");
    due("33 captures", m.captures(), 33);
    due("the last of them", m.capture(32, 0) + "-" + m.capture(32, 1), "0-1");
    m = matched("z", "B=AAAAA{.}", "A={}{}{}{}{}{}{}{}");
    due("41 captures", m.captures(), 40);
    due("the last kept", m.capture(39, 0) + "-" + m.capture(39, 1), "0-0");
    m = matched("zy", "B={{.}AAAA{}{}.{}}{}", "A={}{}{}{}{}{}{}{}");
    due("38 captures", m.captures(), 38);
    m = matched("zy", "B={{.}AAAAA{}{}.}{}", "A={}{}{}{}{}{}{}{}");
    due("44 captures", m.captures(), 40);
    due("an early one that ends after the 40th began", m.capture(0, 0) + "-" + m.capture(0, 1), "0-2");
    due("the second", m.capture(1, 0) + "-" + m.capture(1, 1), "0-1");
    due("the 40th", m.capture(39, 0) + "-" + m.capture(39, 1), "1-1");
    m = matched("zy", "B=(AAAAAA.x)?{.}{.}", "A={}{}{}{}{}{}{}{}");
    due("more than 40 taken back", capturesOf(m), "0-1 1-2");
    m = matched("zy", "B={.}(AAAAAA!.)?{.}", "A={}{}{}{}{}{}{}{}");
    due("more than 40 taken back behind one", capturesOf(m), "0-1 1-2");
    m = matched("zy", "B=&(AAAAAA){.}{.}", "A={}{}{}{}{}{}{}{}");
    due("more than 40 in a look", capturesOf(m), "0-1 1-2");
    m = matched("zy", "B=AAAAAA(AAx/{.}).", "A={}{}{}{}{}{}{}{}");
    due("taken back when all are kept", m.captures(), 40);
    due("the last of those", m.capture(39, 1), 0);
  }

  private static void capture() {
    part("promise 12");
    GrammarMachine none = new GrammarMachine();
    dueThrow("no match", INDEX, () -> none.capture(0, 0));
    GrammarMachine m = matched("xabc", "A=x{ab{c}}");
    due("0 begins", m.capture(0, 0), 1);
    due("0 ends", m.capture(0, 1), 4);
    due("1 begins", m.capture(1, 0), 3);
    due("1 ends", m.capture(1, 1), 4);
    dueThrow("capture(2, 0)", INDEX, () -> m.capture(2, 0));
    dueThrow("capture(-1, 0)", INDEX, () -> m.capture(-1, 0));
    dueThrow("capture(0, 2)", INDEX, () -> m.capture(0, 2));
    dueThrow("capture(0, -1)", INDEX, () -> m.capture(0, -1));
    dueThrow("capture(5, 5)", INDEX, () -> m.capture(5, 5));
    dueThrow("far off", INDEX, () -> m.capture(Integer.MIN_VALUE, 0));
    dueThrow("far off", INDEX, () -> m.capture(Integer.MAX_VALUE, 1));
    m.match(0, 1);
    dueThrow("a match that failed", INDEX, () -> m.capture(0, 0));
    GrammarMachine kept = matched("", "B=AAAAAA", "A={}{}{}{}{}{}{}{}");
    due("capture(39, 1)", kept.capture(39, 1), 0);
    dueThrow("capture(40, 1)", INDEX, () -> kept.capture(40, 1));
  }

  private static void farthest() {
    part("promise 13");
    dueFarthest("abc", -1, "A=abc");
    dueFarthest("abc", 2, "A=abd");
    dueFarthest("ab", 2, "A=abc");
    dueFarthest("abc", 3, "A=.*");
    dueFarthest("aab", 2, "A=a*b");
    dueFarthest("ab", 1, "A=ac/ab");
    dueFarthest("abc", 2, "A=abd/b/a");
    dueFarthest("abc", 2, "A=!(abd)a");
    dueFarthest("abc", 2, "A=&(abd?)a");
    dueFarthest("abc", -1, "A=&(abc)a");
    dueFarthest("abc", -1, "A=!(abc)/{}");
    dueFarthest("abc", 2, "A=!B{a}/ab", "B=a.d");
    dueFarthest("abc", 2, "A=(B/C)abc", "B=abd", "C={}");
    dueFarthest("abcdefghi", 9, "A=.*");
    dueFarthest("b", 0, "A=[c-a]");
    dueFarthest("", 0, "A=.");
    dueFarthest("", -1, "A={}");
    GrammarMachine m = matched("abc", "A=abd", "B=x", "C=D");
    due("first match", m.farthest(), 2);
    m.clear();
    due("stays when the text changes", m.farthest(), 2);
    dueThrow("no match", STATE, () -> m.match(2, 0));
    due("stays when a match throws", m.farthest(), 2);
    m.match(1, 0);
    due("is of the latest match alone", m.farthest(), 0);
  }

  private static void tried() {
    part("promise 14");
    dueTried("a", 1, "A=a");
    dueTried("b", 1, "A=a");
    dueTried("b", 2, "A=B", "B=a");
    dueTried("ba", 2, "A=BB", "B=a");
    dueTried("ab", 3, "A=BB", "B=a");
    dueTried("aa", 3, "A=BB", "B=a");
    dueTried("a", 2, "A=Bx/By/B", "B=a");
    dueTried("a", 2, "A=!B/&B.", "B=a");
    dueTried("a", 1, "A=aa/a/B", "B=a");
    dueTried("a", 2, "A=b/B/C", "B=a", "C=a");
    dueTried("aaa", 4, "A=aA/{}");
    dueTried("aaa", 5, "A=B*", "B=a");
    GrammarMachine m = matched("aaa", "A=B*", "B=a", "C=D");
    m.clear();
    m.drop(1);
    due("stays when rules change", m.tried(), 5);
    dueThrow("no match", STATE, () -> m.match(0, 0));
    due("stays when a match throws", m.tried(), 5);
    defineLine(m, "B=b");
    m.match(1, 0);
    due("is of the latest match alone", m.tried(), 1);
  }

  /** Grammars that go deep, or that would take ages if a rule were matched at a place again and again. */
  private static void largest() {
    part("largest");
    dueMatch("aaaaaaaaa", 0, 9, "A=((((((B))))))", "B=((((((C))))))", "C=((((((D))))))", "D=((((((.A?))))))");
    dueMatch("aaaaaaaaa", 0, -1, "A=B1/B2/B3/B4/B5", "B=C1/C2/C3/C4/C5", "C=D1/D2/D3/D4/D5", "D=.A1/.A2/.A3/.A4");
    dueTried("aaaaaaaaa", 40, "A=B1/B2/B3/B4/B5", "B=C1/C2/C3/C4/C5", "C=D1/D2/D3/D4/D5", "D=.A1/.A2/.A3/.A4");
    dueMatch("aaaaaaaaa", 0, 0, "D=CCCCCCCCCCCCCCCCCC", "C=BBBBBBBBBBBBBBBBBB", "B=AAAAAAAAAAAAAAAAAA", "A={}{}{}{}{}{}{}{}{}");
    dueMatch("aaaaaaaaa", 0, 9, "A=(&(&(&.*.)*.)*.)*");
    GrammarMachine m = matched("aaaaaaaaa", "A={{{{{{.B}}}}}}", "B={{{{{A/.}}}}}");
    due("captures of a deep match", m.captures(), 40);
    due("the first", m.capture(0, 0) + "-" + m.capture(0, 1), "0-9");
  }
}
