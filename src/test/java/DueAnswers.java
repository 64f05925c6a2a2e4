import java.lang.reflect.InvocationTargetException;
import java.lang.reflect.Method;
import java.util.Objects;

/** What the tests have in common: asking a GrammarMachine, and telling every answer that is not the one that is due. */
abstract class DueAnswers {
  static final Class<?> ARGUMENT = IllegalArgumentException.class;
  static final Class<?> INDEX = IndexOutOfBoundsException.class;
  static final Class<?> STATE = IllegalStateException.class;

  private static int wrong = 0;
  private static String part = "";

  interface Call {
    Object run();
  }

  interface Asked {
    Object of(GrammarMachine m);
  }

  interface Setup {
    void on(GrammarMachine m);
  }

  /** Names the promise, or quotes the sentence of the document, that is tested from here on. */
  static void part(String name) {
    part = name;
  }

  /**
   * Runs every test of a class, that is, every private method of it that takes and answers nothing. One that breaks off
   * is wrong, and the others are run all the same.
   */
  static void runAll(Class<?> tests) {
    int count = 0;
    for (Method test : tests.getDeclaredMethods()) {
      if (test.isSynthetic() || test.getParameterCount() > 0 || test.getReturnType() != void.class) continue;
      count++;
      run(test);
    }
    System.out.println(count + " tests: " + (wrong == 0 ? "all answers are as due" : wrong + " answers are not as due"));
    if (wrong != 0 || count == 0) System.exit(1);
  }

  private static void run(Method test) {
    part = test.getName();
    try {
      test.setAccessible(true);
      test.invoke(null);
    } catch (InvocationTargetException e) {
      due(test.getName(), e.getCause(), "no break");
    } catch (IllegalAccessException e) {
      due(test.getName(), e, "no break");
    }
  }

  static void due(String call, Object got, Object want) {
    if (!Objects.equals(got, want)) {
      wrong++;
      System.out.println(part + ": " + call + " answered " + got + ", due is " + want);
    }
  }

  /** What a call answers: its value, or the class of what it throws. */
  static Object answer(Call made) {
    try {
      return made.run();
    } catch (RuntimeException e) {
      return e.getClass();
    }
  }

  static void dueThrow(String call, Class<?> want, Call made) {
    due(call, answer(made), want);
  }

  /** A call that is refused: it answers what is due, and nothing that the object holds has changed. */
  static void dueNoChange(String call, Object want, Setup setup, Asked asked) {
    GrammarMachine asIs = new GrammarMachine();
    setup.on(asIs);
    GrammarMachine called = new GrammarMachine();
    setup.on(called);
    due(call, answer(() -> asked.of(called)), want);
    due("all that is held after " + call, held(called), held(asIs));
  }

  static int four(String s) {
    int four = 0;
    for (int i = s.length() - 1; i >= 0; i--) four = four << 8 | s.charAt(i);
    return four;
  }

  static boolean typeAll(GrammarMachine m, String s) {
    boolean all = true;
    for (int i = 0; i < s.length(); i += 4) all &= m.type(four(s.substring(i, Math.min(i + 4, s.length()))));
    return all;
  }

  static void setText(GrammarMachine m, String s) {
    m.clear();
    for (int i = 0; i < s.length(); i += 4) {
      if (!m.text(four(s.substring(i, Math.min(i + 4, s.length()))))) throw new AssertionError("no room for " + s);
    }
  }

  static int defineLine(GrammarMachine m, String line) {
    if (!typeAll(m, line)) throw new AssertionError("no room for " + line);
    return m.define();
  }

  static GrammarMachine with(String... lines) {
    GrammarMachine m = new GrammarMachine();
    for (String line : lines) defineLine(m, line);
    return m;
  }

  static int firstRule(String... lines) {
    return lines[0].charAt(0) - 'A';
  }

  /** A machine whose latest match is that of the first line's rule at the beginning of a text. */
  static GrammarMachine matched(String text, String... lines) {
    GrammarMachine m = with(lines);
    setText(m, text);
    m.match(firstRule(lines), 0);
    return m;
  }

  static String lineOf(GrammarMachine m, int rule) {
    StringBuilder s = new StringBuilder();
    char c = m.shown(rule, 0);
    for (int k = 1; c != 0; k++) {
      s.append(c);
      c = m.shown(rule, k);
    }
    return s.toString();
  }

  static String linesOf(GrammarMachine m) {
    return lineOf(m, 0) + " " + lineOf(m, 1) + " " + lineOf(m, 2) + " " + lineOf(m, 3);
  }

  /** The captures of the latest match, as in "0-3 1-2". */
  static String capturesOf(GrammarMachine m) {
    StringBuilder s = new StringBuilder();
    int count = m.captures();
    for (int i = 0; i < count; i++) s.append(i == 0 ? "" : " ").append(captureOf(m, i));
    return s.toString();
  }

  static String captureOf(GrammarMachine m, int i) {
    return m.capture(i, 0) + "-" + m.capture(i, 1);
  }

  /** What is told about the latest match: its captures, farthest() and tried(). */
  static String latestOf(GrammarMachine m) {
    return "[" + capturesOf(m) + "] " + m.farthest() + " " + m.tried();
  }

  /** All that can be looked at without a change. */
  static String stateOf(GrammarMachine m) {
    StringBuilder s = new StringBuilder(linesOf(m));
    for (int rule = 0; rule < 4; rule++) s.append(' ').append(m.check(rule));
    return s.append(' ').append(latestOf(m)).toString();
  }

  /**
   * All that an object holds, its line too, and its text as far as it is of a .. i. It is not of use afterwards: the
   * line is only seen by defining, the text only by matching.
   */
  static String held(GrammarMachine m) {
    StringBuilder s = new StringBuilder(stateOf(m));
    s.append(" line ").append(answer(m::define)).append(' ').append(linesOf(m)).append(" text ");
    for (char c = 'a'; c <= 'i'; c++) {
      m.type(four("D=" + c));
      m.define();
      for (int place = 0; place < 9; place++) {
        int at = place;
        if (Objects.equals(answer(() -> m.match(3, at)), place + 1)) s.append(c).append(place);
      }
    }
    return s.append(" of ").append(m.clear()).toString();
  }

  static void dueMatch(String text, int place, int want, String... lines) {
    GrammarMachine m = with(lines);
    setText(m, text);
    due(String.join(" ", lines) + " at " + place + " of '" + text + "'", m.match(firstRule(lines), place), want);
  }

  static void dueCaptures(String text, String want, String... lines) {
    due(String.join(" ", lines) + " captures in '" + text + "'", capturesOf(matched(text, lines)), want);
  }

  static void dueFarthest(String text, int want, String... lines) {
    due(String.join(" ", lines) + " farthest in '" + text + "'", matched(text, lines).farthest(), want);
  }

  static void dueTried(String text, int want, String... lines) {
    due(String.join(" ", lines) + " tried in '" + text + "'", matched(text, lines).tried(), want);
  }

  static void dueCheck(int want, String... lines) {
    due(String.join(" ", lines) + " checked", with(lines).check(firstRule(lines)), want);
  }

  static void dueRefused(String line) {
    GrammarMachine m = with("A=a", "B=b", "C=c", "D=d");
    String before = stateOf(m);
    due("typing " + line, typeAll(m, line), true);
    dueThrow("define of " + line, ARGUMENT, () -> m.define());
    due("state after " + line, stateOf(m), before);
    due("the line is empty after " + line, defineLine(m, "C=.z"), 2);
    due("the line is empty after " + line, lineOf(m, 2), "C=.z");
  }

  static void dueDefined(String line) {
    GrammarMachine m = new GrammarMachine();
    due("typing " + line, typeAll(m, line), true);
    due("define of " + line, answer(m::define), line.charAt(0) - 'A');
    due("line of " + line, lineOf(m, line.charAt(0) - 'A'), line);
  }

  /** A line that is to be defined if so, and to be refused if not. */
  static void dueLine(String line, boolean defined) {
    if (defined) dueDefined(line);
    else dueRefused(line);
  }

  static boolean isPlain(char c) {
    return (c >= 'a' && c <= 'z') || (c >= '0' && c <= '9');
  }

  static boolean isName(char c) {
    return c >= 'A' && c <= 'D';
  }
}
