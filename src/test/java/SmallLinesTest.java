import java.util.function.Consumer;
import java.util.regex.Pattern;

/** All lines of a few characters: whether they define a rule, and what the grammars that they make answer. */
public final class SmallLinesTest extends DueAnswers {
  private static final String ITEM = "[&!]*[a-z0-9.A-D][*+?]?";
  private static final String CHOICE = ITEM + "(?:" + ITEM + "|/" + ITEM + ")*";
  private static final Pattern RANGE = Pattern.compile("\\[[a-z0-9]-[a-z0-9]\\]");
  private static final Pattern BRACKET = Pattern.compile("\\(" + CHOICE + "\\)|\\{" + CHOICE + "\\}|\\{\\}");
  private static final Pattern LINE = Pattern.compile("[A-D]=" + CHOICE);

  private static final String[] TEXTS = {"", "a", "ab", "ba", "aab", "abab"};

  public static void main(String[] args) {
    runAll(SmallLinesTest.class);
  }

  private static void linesOfAnyKind() {
    part("A line DEFINES a rule when it is: a name, =, and a CHOICE: all lines of up to 4 characters of some");
    dueToDefineAll("", "ADE=az/*.!{}", 4);
  }

  private static void choices() {
    part("A CHOICE is ..: all choices of up to 4 characters");
    dueToDefineAll("C=", "aB.[-](){}*+?&!/", 4);
  }

  private static void ranges() {
    part("[x-y], x and y being letters a .. z or digits: all that looks like it");
    dueToDefineAll("C=", "[a-9]", 6);
  }

  private static void nests() {
    part("( a choice ); { a choice }; {}: all nests of up to 6 characters");
    dueToDefineAll("C=", "(){}a/", 6);
  }

  private static void oneRule() {
    part("all rules of up to 5 characters, matched");
    int[] grammars = new int[1];
    forAll("A=", "ab{}()*?!/", 5, line -> dueAsModelled(grammars, line));
    due("many grammars", grammars[0] > 1000, true);
  }

  private static void twoRules() {
    part("all rules of up to 4 characters beside another one, matched");
    int[] grammars = new int[1];
    for (String other : new String[] {"B=a", "B={a}b?", "B={}", "B=aA/{b}", "B=!A.", "B=A?b"}) {
      forAll("A=", "aB.{}()*+?&!/", 4, line -> dueAsModelled(grammars, line, other));
    }
    due("many grammars", grammars[0] > 1000, true);
  }

  /** Hands over the beginning with all rows of up to so many of the characters behind it. */
  private static void forAll(String beginning, String characters, int most, Consumer<String> asked) {
    asked.accept(beginning);
    if (most == 0) return;
    for (char c : characters.toCharArray()) forAll(beginning + c, characters, most - 1, asked);
  }

  /** A line defines a rule when it is one after all its ranges and then, from inside out, its brackets are made letters. */
  private static boolean defines(String line) {
    String rest = RANGE.matcher(line).replaceAll("a");
    for (String before = ""; !before.equals(rest);) {
      before = rest;
      rest = BRACKET.matcher(rest).replaceAll("a");
    }
    return LINE.matcher(rest).matches();
  }

  private static void dueToDefineAll(String beginning, String characters, int most) {
    int[] counts = new int[2];
    forAll(beginning, characters, most, line -> counts[dueToDefine(line) ? 1 : 0]++);
    due("many lines that define, and many that do not", counts[1] > 50 && counts[0] > 50, true);
  }

  private static boolean dueToDefine(String line) {
    boolean defines = defines(line);
    GrammarMachine m = new GrammarMachine();
    typeAll(m, line);
    due("define of " + line, answer(m::define), defines ? line.charAt(0) - 'A' : ARGUMENT);
    return defines;
  }

  private static void dueAsModelled(int[] grammars, String... lines) {
    if (!defines(lines[0])) return;
    grammars[0]++;
    GrammarMachine x = with(lines);
    Model y = new Model();
    for (String line : lines) y.define(line);
    String grammar = String.join(" ", lines);
    due("check of " + grammar, x.check(0), y.check(0));
    if (y.check(0) != 0) return;
    for (String text : TEXTS) {
      setText(x, text);
      y.text = text;
      String where = " of " + grammar + " in '" + text + "'";
      due("match" + where, x.match(0, 0) + " " + latestOf(x), y.match(0, 0) + " " + y.latest());
      due("find" + where, x.find(0) + " " + latestOf(x), y.find(0) + " " + y.latest());
    }
  }
}
