/**
 * What a line may be and may not be, and the calls that type, define and show lines: the sentences of "Terms" up to
 * the atoms, and of promises 2, 3 and 5, each with the last that is taken and the first that is not.
 */
public final class LineBoundariesTest extends DueAnswers {
  /** The longest line there can be. */
  private static final String TWENTY = "A=abcdefghijklmnopqr";

  public static void main(String[] args) {
    runAll(LineBoundariesTest.class);
  }

  private static String many(String s, int count) {
    return s.repeat(count);
  }

  private static void names() {
    part("RULES 0 .. 3 have the names A .. D.");
    for (int rule = 0; rule < 4; rule++) {
      char name = (char) ('A' + rule);
      due("define of " + name, defineLine(new GrammarMachine(), name + "=a"), rule);
      dueDefined("A=" + name);
      GrammarMachine m = with("A=a", "B=b", "C=c", "D=d");
      setText(m, "abcd");
      due("rule " + rule + " is that of " + name, m.find(rule), rule);
      String other = rule == 0 ? "B" : "A";
      defineLine(m, other + "=." + name);
      setText(m, "a" + (char) ('a' + rule));
      due("the name " + name + " in a pattern", m.match(other.charAt(0) - 'A', 0), 2);
    }
    for (String none : new String[] {"@", "E", "Z", "a", "d", "0"}) dueRefused(none + "=a");
    for (String none : new String[] {"@", "E", "Z"}) dueRefused("A=" + none);
  }

  private static void definedOrNot() {
    part("A rule is DEFINED or not; a defined one has a PATTERN.");
    GrammarMachine m = new GrammarMachine();
    setText(m, "a");
    for (int rule = 0; rule < 4; rule++) {
      int asked = rule;
      due("check before", m.check(rule), 1);
      dueThrow("match before", STATE, () -> m.match(asked, 0));
      defineLine(m, (char) ('A' + rule) + "=a");
      due("check then", m.check(rule), 0);
      due("match then", m.match(rule, 0), 1);
    }
  }

  private static void lineLimit() {
    part("The LINE has at most 20 characters");
    dueDefined(TWENTY);
    due("its last character", with(TWENTY).shown(0, 19), 'r');
    dueNoChange("a 21st", false, m -> typeAll(m, TWENTY), m -> m.type('s'));
    dueNoChange("four more than 17", false, m -> typeAll(m, TWENTY.substring(0, 17)), m -> m.type(four("opqr")));
    GrammarMachine m = new GrammarMachine();
    typeAll(m, TWENTY.substring(0, 19));
    due("a 20th", m.type('r'), true);
    due("define of 20", m.define(), 0);
  }

  private static void nameEqualsChoice() {
    part("A line DEFINES a rule when it is: a name, =, and a CHOICE.");
    dueDefined("A=a");
    for (String line : new String[] {"", "A", "=", "a", "A=", "=a", "Aa", "A a", "AB=a", "A==a", "A=a=a", "A=a=", "AA", "A=A=a",
        "A-a", "A:a", "B=a\"", "a=A", "(A=a)", "A=a,"}) {
      dueRefused(line);
    }
  }

  private static void noBlanks() {
    part("There are no blanks.");
    String line = "A=!a/(b*){}[c-d]";
    dueDefined(line);
    for (int at = 0; at <= line.length(); at++) dueRefused(line.substring(0, at) + " " + line.substring(at));
    dueRefused(" ");
  }

  private static void choices() {
    part("A CHOICE is one or more SEQUENCES with / between them.");
    dueDefined("A=a");
    dueDefined("A=a/b");
    String nine = "A=a/b/c/d/e/f/g/h/i";
    dueDefined(nine);
    GrammarMachine m = with(nine);
    for (char c = 'a'; c <= 'j'; c++) {
      setText(m, "" + c);
      due("one of nine for " + c, m.match(0, 0), c == 'j' ? -1 : 1);
    }
    dueDefined("B=ab/cd/ef/gh/ij/klm");
    for (String none : new String[] {"/", "/a", "a/", "a//b", "//", "a/b/", "(/)", "(/a)", "(a/)", "(a//b)", "{/}", "{/a}", "{a/}",
        "{a//b}", "a/(b/)", "{}/"}) {
      dueRefused("A=" + none);
    }
    dueRefused(nine + "/");
  }

  private static void sequences() {
    part("A sequence is one or more ITEMS, one behind the other.");
    dueDefined("A=a");
    dueDefined("A=" + many("a", 18));
    GrammarMachine m = matched("", "A=" + many("B", 18), "B={}");
    due("each of 18 items is matched", m.captures(), 18);
    dueMatch("abcdefghi", 0, 9, "A=abcdefghi");
    dueMatch("abcdefgh", 0, -1, "A=abcdefghi");
    for (String none : new String[] {"", "/a", "()", "(a/)", "{a/}"}) dueRefused("A=" + none);
  }

  private static void items() {
    part("An item is a PIECE with any number (also none) of & and ! in front.");
    for (int count = 0; count <= 17; count++) {
      boolean even = count % 2 == 0;
      String not = "A=" + many("!", count) + "a";
      dueDefined(not);
      dueMatch("a", 0, count == 0 ? 1 : even ? 0 : -1, not);
      dueMatch("b", 0, count == 0 || even ? -1 : 0, not);
      String and = "A=" + many("&", count) + "a";
      dueDefined(and);
      dueMatch("a", 0, count == 0 ? 1 : 0, and);
      dueMatch("b", 0, -1, and);
    }
    dueMatch("a", 0, 0, "A=&!&!&a");
    dueMatch("b", 0, 0, "A=!&&&&a");
    for (String none : new String[] {"!", "&", many("!", 18), many("&", 18), "a!", "a&", "!/a", "a/&", "(!)", "{&}", "&*", "!?a", "!&+"}) {
      dueRefused("A=" + none);
    }
  }

  private static void pieces() {
    part("A piece is an ATOM, or an atom and one of * + ? behind it.");
    for (String atom : new String[] {"a", "0", ".", "[a-z]", "B", "(a)", "{a}", "{}"}) {
      dueDefined("A=" + atom);
      for (String one : new String[] {"*", "+", "?"}) {
        dueDefined("A=" + atom + one);
        dueDefined("A=&" + atom + one + "b");
        dueRefused("A=" + one + atom);
        for (String other : new String[] {"*", "+", "?"}) dueRefused("A=" + atom + one + other);
      }
    }
    dueDefined("A=(a*)*");
  }

  private static void marksBehindAtoms() {
    part("A piece .. one of * + ? behind it: behind nothing else");
    for (String one : new String[] {"*", "+", "?"}) {
      for (String before : new String[] {"", "&", "a/", "(", "{", "a!", "a/b/"}) dueRefused("A=" + before + one);
      for (String inside : new String[] {"(" + one + ")", "{" + one + "}", "[" + one + "-a]", "[a" + one + "b]"}) dueRefused("A=" + inside);
    }
  }

  private static void singleCharacters() {
    part("An atom is: a letter a .. z or a digit 0 .. 9; . (a dot); a name");
    for (char c = ' '; c <= '~'; c++) dueLine("A=" + c, isPlain(c) || isName(c) || c == '.');
  }

  private static void everyCharacterInEveryPlace() {
    part("A line DEFINES a rule when it is ..: any character, in any place of one");
    for (char c = ' '; c <= '~'; c++) {
      boolean atom = isPlain(c) || isName(c) || c == '.';
      dueLine(c + "=a", isName(c));
      dueLine("A" + c + "a", c == '=');
      dueLine("A=" + c + "a", atom || c == '&' || c == '!');
      dueLine("A=a" + c, atom || c == '*' || c == '+' || c == '?');
      dueLine("A=a" + c + "b", atom || "*+?/&!".indexOf(c) >= 0);
      dueLine("A=(a" + c, c == ')');
      dueLine("A={a" + c, c == '}');
      dueLine("A={" + c, c == '}');
      dueLine("A=(" + c + ")", atom);
      dueLine("A={" + c + "}", atom);
      dueLine("A=[a-b" + c, c == ']');
      dueLine("A=[a" + c + "b]", c == '-');
    }
  }

  private static void ranges() {
    part("[x-y], x and y being letters a .. z or digits");
    for (char c = ' '; c <= '~'; c++) {
      dueLine("A=[" + c + "-z]", isPlain(c));
      dueLine("A=[0-" + c + "]", isPlain(c));
      dueLine("A=[" + c + "-0]", isPlain(c));
      dueLine("A=[z-" + c + "]", isPlain(c));
    }
    for (String none : new String[] {"[", "[a", "[a-", "[a-z", "]", "[]", "[-]", "[a-]", "[-z]", "[a]", "[az]", "[a--z]", "[aa-z]",
        "[a-zz]", "[a-z]]", "[[a-z]", "[a-z-9]", "[(a)-z]", "(a-z)", "[a-z)", "a-z", "[a-z"}) {
      dueRefused("A=" + none);
    }
  }

  private static void parentheses() {
    part("( a choice )");
    for (String one : new String[] {"(a)", "(a/b)", "(ab/c)", "((a))", "({})", "(A)", "(!a)", "(a)(b)", "(a*)"}) dueDefined("A=" + one);
    for (String none : new String[] {"()", "(", ")", "(a", "a)", "((a)", "(a))", ")a(", "(a}", "{a)", "(a/(b)", "(())", "a()", "()a"}) {
      dueRefused("A=" + none);
    }
  }

  private static void braces() {
    part("{ a choice }; {} (nothing between the braces)");
    for (String one : new String[] {"{}", "{a}", "{a/b}", "{{}}", "{{}{}}", "{(a)}", "{B}", "{!a}", "{}a", "a{}", "{}/{}"}) dueDefined("A=" + one);
    for (String none : new String[] {"{", "}", "{a", "a}", "{{}", "{}}", "}{", "{)", "(}", "{ }", "{()}", "{*}", "{}**"}) dueRefused("A=" + none);
  }

  private static void typeTakesBytes() {
    part("type: The characters whose codes are the bytes of four, the lowest byte first .. are put at the end of the line");
    GrammarMachine m = new GrammarMachine();
    due("one", m.type(0x41), true);
    due("two", m.type(0x623d), true);
    due("three", m.type(0x653064), true);
    due("four", m.type(0x7a396867), true);
    due("define", m.define(), 0);
    due("the line", lineOf(m, 0), "A=bd0egh9z");
  }

  private static void typeStopsAtZero() {
    part("type: up to the first that is 0 .. (None, if the lowest is 0; what is behind that is not looked at.)");
    int[] behind = {0, 1, 31, 'x', 127, 128, 255};
    for (int code : behind) {
      dueNoChange("none before " + code, true, m -> typeAll(m, "B=b"), m -> m.type(code << 8 | code << 16 | code << 24));
      GrammarMachine m = new GrammarMachine();
      typeAll(m, "B=");
      due("one before " + code, m.type('a' | code << 16 | code << 24), true);
      due("two before " + code, m.type('b' | 'c' << 8 | code << 24), true);
      due("three", m.type('d' | 'e' << 8 | 'f' << 16), true);
      due("define", m.define(), 1);
      due("the line", lineOf(m, 1), "B=abcdef");
    }
    dueNoChange("none in a full line", true, m -> typeAll(m, TWENTY), m -> m.type(0));
    dueNoChange("none in an empty line", true, m -> { }, m -> m.type(0xff7f1f00));
  }

  private static void typeHasRoom() {
    part("type: False, changing nothing, when it would have more than 20.");
    for (int length = 0; length <= 20; length++) {
      String line = TWENTY.substring(0, length);
      for (int count = 1; count <= 4; count++) {
        int more = four("xyz0".substring(0, count));
        if (length + count > 20) {
          dueNoChange(count + " behind " + length, false, m -> typeAll(m, line), m -> m.type(more));
        } else {
          GrammarMachine m = new GrammarMachine();
          typeAll(m, line);
          due(count + " behind " + length, m.type(more), true);
        }
      }
    }
    GrammarMachine m = new GrammarMachine();
    typeAll(m, TWENTY.substring(0, 17));
    due("four are too many", m.type(four("1234")), false);
    due("three are not", m.type(four("567")), true);
    m.define();
    due("the line has those three alone", lineOf(m, 0), TWENTY.substring(0, 17) + "567");
  }

  private static void typeRefusesFirst() {
    part("type: IllegalArgumentException, before that, when one of them is not 32 .. 126.");
    for (int at = 0; at < 4; at++) {
      int others = four("abcd") & ~(255 << 8 * at);
      for (int code = 1; code < 256; code++) {
        int wanted = others | code << 8 * at;
        boolean taken = code >= 32 && code <= 126;
        due("code " + code + " as byte " + at, answer(() -> new GrammarMachine().type(wanted)), taken ? true : ARGUMENT);
      }
      for (int code : new int[] {1, 31, 127, 128, 255}) {
        int wrong = others | code << 8 * at;
        dueNoChange("code " + code + " as byte " + at, ARGUMENT, m -> typeAll(m, "A=a"), m -> m.type(wrong));
        dueNoChange("the same in a full line", ARGUMENT, m -> typeAll(m, TWENTY), m -> m.type(wrong));
        dueNoChange("the same with too little room", ARGUMENT, m -> typeAll(m, TWENTY.substring(0, 17)), m -> m.type(wrong));
      }
    }
  }

  private static void defineEmptiesTheLine() {
    part("define: The line is read, and is empty afterwards in any case.");
    for (String line : new String[] {"", "A=a", TWENTY, "A", "A=", "A=a)", "x", "A=(((((((a)))))))", "A=a/b/c/d/e/f/g/h/i/"}) {
      GrammarMachine m = new GrammarMachine();
      typeAll(m, line);
      answer(m::define);
      due("20 characters have room after " + line, typeAll(m, "B" + TWENTY.substring(1)), true);
      due("and are all there is after " + line, answer(m::define), 1);
      dueThrow("define of nothing after " + line, ARGUMENT, m::define);
    }
  }

  private static void defineReplaces() {
    part("define: It defines a rule, whose pattern (if it had one) is that of the line then");
    GrammarMachine m = with(TWENTY, "B=b", "C=A");
    setText(m, "xyb");
    due("it had one", defineLine(m, "A=x"), 0);
    due("its line", linesOf(m), "A=x B=b C=A ");
    due("its pattern", m.match(0, 0), 1);
    due("the same by its name", m.match(2, 0), 1);
    due("another's pattern", m.match(1, 2), 3);
    due("it had none", defineLine(m, "D=y"), 3);
    due("its pattern", m.match(3, 1), 2);
    typeAll(m, "A=x(");
    dueThrow("a line that defines none", ARGUMENT, m::define);
    due("the pattern stays", m.match(0, 0), 1);
    due("the line stays", lineOf(m, 0), "A=x");
  }

  private static void defineAnswersTheRule() {
    part("define: the number of the rule");
    GrammarMachine m = new GrammarMachine();
    for (int round = 0; round < 2; round++) {
      for (int rule = 3; rule >= 0; rule--) due("define", defineLine(m, (char) ('A' + rule) + "=a"), rule);
    }
  }

  /** Brackets round a pattern: the bits of kinds say which of them are braces, the lowest being furthest out. */
  private static String nest(int depth, int kinds, String inside) {
    StringBuilder s = new StringBuilder(inside);
    for (int level = depth - 1; level >= 0; level--) {
      boolean brace = (kinds >> level & 1) != 0;
      s.insert(0, brace ? '{' : '(').append(brace ? '}' : ')');
    }
    return s.toString();
  }

  private static void defineTakesSixDeep() {
    part("define: an atom that begins with ( or { lies in six others that do: in five it is taken");
    for (int kinds = 0; kinds < 64; kinds++) dueDefined("A=" + nest(6, kinds, "a"));
    for (int kinds = 0; kinds < 32; kinds++) dueDefined("A=" + nest(5, kinds, "{}"));
    dueDefined("A=" + nest(6, 0, "[a-z]"));
    dueDefined("A=" + nest(6, 5, "a*/b"));
    dueDefined("A=" + nest(6, 7, "!!B"));
    dueMatch("a", 0, 1, "A=((((((a))))))");
    dueCaptures("a", "0-1 0-1 0-1 0-1 0-1 0-1", "A={{{{{{a}}}}}}");
  }

  private static void defineRefusesSevenDeep() {
    part("define: IllegalArgumentException .. when an atom that begins with ( or { lies in six others that do");
    for (int kinds = 0; kinds < 128; kinds++) dueRefused("A=" + nest(7, kinds, "a"));
    for (int kinds = 0; kinds < 64; kinds++) dueRefused("A=" + nest(6, kinds, "{}"));
    dueRefused("A=" + nest(8, 0, "a"));
    dueRefused("A=" + nest(6, 0, "a/(b)"));
    dueRefused("A=" + nest(6, 21, "a{b}"));
    dueRefused("A=" + nest(6, 42, "!{}"));
    dueRefused("A=b/" + nest(7, 3, "c"));
    dueRefused("A=(" + nest(6, 0, "a") + "b)");
  }

  private static void defineCountsOpenOnes() {
    part("define: .. lies in six others: those that are closed before do not count");
    dueDefined("A=(a)(b)(c)(d)(e)(f)");
    dueDefined("A=" + many("{}", 9));
    dueDefined("A=((a))" + nest(6, 0, "b"));
    dueDefined("A=" + nest(6, 63, "a") + "{{b}}");
    dueDefined("A={(a)/" + nest(5, 9, "b") + "}");
    dueDefined("A=((((((a))b))))");
    dueDefined("A=((((({}{}{})))))");
  }

  private static void shownCharacters() {
    part("shown: Character k of the line by which a rule was defined");
    String[] lines = {TWENTY, "B=b", "C=[a-z]/{}!.", "D=1234567890abcdefgh"};
    GrammarMachine m = with(lines);
    for (int rule = 0; rule < 4; rule++) {
      for (int k = 0; k < 20; k++) {
        due("shown(" + rule + ", " + k + ")", m.shown(rule, k), k < lines[rule].length() ? lines[rule].charAt(k) : (char) 0);
      }
    }
  }

  private static void shownNone() {
    part("shown: 0 when there is none, or no such rule is defined");
    GrammarMachine full = with(TWENTY, "B" + TWENTY.substring(1), "C" + TWENTY.substring(1), "D" + TWENTY.substring(1));
    GrammarMachine none = new GrammarMachine();
    GrammarMachine one = with("B=b");
    int[] far = {Integer.MIN_VALUE, -21, -20, -1, 20, 21, 39, 40, 256, Integer.MAX_VALUE};
    for (int rule = 0; rule < 4; rule++) {
      for (int k : far) due("shown(" + rule + ", " + k + ")", answer(askShown(full, rule, k)), (char) 0);
      for (int k = 0; k < 20; k++) due("not defined, shown(" + rule + ", " + k + ")", none.shown(rule, k), (char) 0);
    }
    for (int rule : new int[] {Integer.MIN_VALUE, -1, 4, 5, 'A', Integer.MAX_VALUE}) {
      for (int k : new int[] {-1, 0, 19, 20}) due("shown(" + rule + ", " + k + ")", answer(askShown(full, rule, k)), (char) 0);
    }
    due("behind the last of three", one.shown(1, 3), (char) 0);
    due("of a rule beside it", "" + one.shown(0, 0) + one.shown(2, 0), "\0\0");
  }

  private static Call askShown(GrammarMachine m, int rule, int k) {
    return () -> m.shown(rule, k);
  }

  private static void shownAfterChanges() {
    part("shown: the line by which a rule was defined, and no other");
    GrammarMachine m = with(TWENTY);
    defineLine(m, "A=b");
    for (int k = 3; k < 20; k++) due("behind a shorter line, at " + k, m.shown(0, k), (char) 0);
    typeAll(m, "A=cde");
    due("while another is typed", lineOf(m, 0), "A=b");
    m.define();
    due("when that is defined", lineOf(m, 0), "A=cde");
    typeAll(m, "A=fghi)");
    answer(m::define);
    due("when one defines nothing", lineOf(m, 0), "A=cde");
    m.drop(0);
    for (int k = 0; k < 20; k++) due("dropped, at " + k, m.shown(0, k), (char) 0);
  }
}
