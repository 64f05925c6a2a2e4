import java.util.ArrayList;
import java.util.HashSet;
import java.util.List;
import java.util.Set;
import java.util.TreeSet;

/**
 * A plain model of GrammarMachine that takes the document's sentences as they stand: it matches again whatever is asked
 * for again, and builds its captures as lists.
 */
final class Model {
  /** A piece of a pattern: its kind is a (a range of characters), A (a name), ( { * + ? & ! , (a sequence) or / (a choice). */
  static final class Node {
    final char kind;
    final List<Node> parts = new ArrayList<>();
    char low;
    char high;

    Node(char kind) {
      this.kind = kind;
    }

    Node(char kind, Node part) {
      this.kind = kind;
      parts.add(part);
    }

    Node part() {
      return parts.get(0);
    }
  }

  static final class Result {
    final int end;
    final List<int[]> captures;

    Result(int end, List<int[]> captures) {
      this.end = end;
      this.captures = captures;
    }
  }

  /** Matching takes too long for a model that matches all again: the run is given up, which says nothing about the class. */
  static final class TooLong extends Error {
    private static final long serialVersionUID = 1;
  }

  String line = "";
  String text = "";
  final String[] lines = new String[4];
  final Node[] patterns = new Node[4];
  List<int[]> captures = new ArrayList<>();
  int farthest = -1;
  Set<String> pairs = new HashSet<>();
  boolean refusedAsTooDeep;
  int steps;

  private static String typed(int four) {
    StringBuilder s = new StringBuilder();
    for (int rest = four; (rest & 255) != 0; rest >>>= 8) s.append((char) (rest & 255));
    if (!s.toString().matches("[ -~]*")) throw new IllegalArgumentException();
    return s.toString();
  }

  boolean type(int four) {
    String longer = line + typed(four);
    if (longer.length() > 20) return false;
    line = longer;
    return true;
  }

  boolean text(int four) {
    String longer = text + typed(four);
    if (longer.length() > 9) return false;
    text = longer;
    return true;
  }

  int clear() {
    int had = text.length();
    text = "";
    return had;
  }

  int define() {
    String read = line;
    line = "";
    return define(read);
  }

  int define(String read) {
    refusedAsTooDeep = false;
    if (!read.matches("[A-D]=.+")) throw new IllegalArgumentException();
    Node pattern = choice(read.substring(2));
    refusedAsTooDeep = pattern != null && deepest(read) > 6;
    if (pattern == null || refusedAsTooDeep) throw new IllegalArgumentException();
    int rule = read.charAt(0) - 'A';
    patterns[rule] = pattern;
    lines[rule] = read;
    return rule;
  }

  private static int deepest(String s) {
    int depth = 0;
    int most = 0;
    for (char c : s.toCharArray()) {
      if (c == '(' || c == '{') most = Math.max(most, ++depth);
      if (c == ')' || c == '}') depth--;
    }
    return most;
  }

  /** Where the bracket at i is closed, -1 when it is not. */
  private static int closing(String s, int i) {
    StringBuilder open = new StringBuilder();
    for (int k = i; k < s.length(); k++) {
      char c = s.charAt(k);
      if (c == '(' || c == '{') open.append(c == '(' ? ')' : '}');
      if (c == ')' || c == '}') {
        if (open.charAt(open.length() - 1) != c) return -1;
        open.setLength(open.length() - 1);
        if (open.length() == 0) return k;
      }
    }
    return -1;
  }

  private static Node choice(String s) {
    Node node = new Node('/');
    int from = 0;
    int depth = 0;
    for (int i = 0; i <= s.length(); i++) {
      char c = i < s.length() ? s.charAt(i) : '/';
      if (c == '(' || c == '{') depth++;
      if (c == ')' || c == '}') depth--;
      if (i == s.length() || (c == '/' && depth == 0)) {
        Node sequence = sequence(s.substring(from, i));
        if (sequence == null) return null;
        node.parts.add(sequence);
        from = i + 1;
      }
    }
    return node;
  }

  private static Node sequence(String s) {
    if (s.isEmpty()) return null;
    Node node = new Node(',');
    int i = 0;
    while (i < s.length()) {
      String signs = "";
      while (i < s.length() && "&!".indexOf(s.charAt(i)) >= 0) signs = s.charAt(i++) + signs;
      if (i == s.length()) return null;
      int end = i + 1;
      if (s.charAt(i) == '(' || s.charAt(i) == '{') end = closing(s, i) + 1;
      if (s.charAt(i) == '[') end = s.indexOf(']', i) + 1;
      if (end == 0) return null;
      Node piece = atom(s.substring(i, end));
      if (piece == null) return null;
      i = end;
      if (i < s.length() && "*+?".indexOf(s.charAt(i)) >= 0) piece = new Node(s.charAt(i++), piece);
      for (char sign : signs.toCharArray()) piece = new Node(sign, piece);
      node.parts.add(piece);
    }
    return node;
  }

  private static Node atom(String s) {
    if (s.equals("{}")) return new Node('{');
    if (s.length() > 1 && (s.charAt(0) == '(' || s.charAt(0) == '{')) {
      Node inside = choice(s.substring(1, s.length() - 1));
      return inside == null ? null : new Node(s.charAt(0), inside);
    }
    if (s.matches("\\[[a-z0-9]-[a-z0-9]\\]")) return range(s.charAt(1), s.charAt(3));
    if (s.equals(".")) return range((char) 0, (char) 1000);
    if (s.matches("[a-z0-9]")) return range(s.charAt(0), s.charAt(0));
    if (!s.matches("[A-D]")) return null;
    Node name = new Node('A');
    name.low = (char) (s.charAt(0) - 'A');
    return name;
  }

  private static Node range(char low, char high) {
    Node node = new Node('a');
    node.low = low;
    node.high = high;
    return node;
  }

  private static void refuse(int rule) {
    if (rule < 0 || rule > 3) throw new IndexOutOfBoundsException();
  }

  boolean drop(int rule) {
    refuse(rule);
    boolean was = patterns[rule] != null;
    patterns[rule] = null;
    lines[rule] = null;
    return was;
  }

  char shown(int rule, int k) {
    if (rule < 0 || rule > 3 || lines[rule] == null || k < 0 || k >= lines[rule].length()) return 0;
    return lines[rule].charAt(k);
  }

  int check(int rule) {
    refuse(rule);
    Set<Integer> needed = new TreeSet<>();
    use(rule, needed);
    for (int other : needed) if (patterns[other] == null) return 1;
    for (int other : needed) if (startsWith(other, other, new HashSet<>())) return 2;
    for (int other : needed) if (goesRound(patterns[other])) return 3;
    return 0;
  }

  private void use(int rule, Set<Integer> needed) {
    if (needed.add(rule) && patterns[rule] != null) useNames(patterns[rule], needed);
  }

  private void useNames(Node node, Set<Integer> needed) {
    if (node.kind == 'A') use(node.low, needed);
    for (Node part : node.parts) useNames(part, needed);
  }

  private boolean startsWith(int rule, int sought, Set<Integer> seen) {
    if (!seen.add(rule)) return false;
    Set<Integer> starts = new TreeSet<>();
    start(patterns[rule], starts);
    for (int other : starts) if (other == sought || startsWith(other, sought, seen)) return true;
    return false;
  }

  private void start(Node node, Set<Integer> starts) {
    if (node.kind == 'A') starts.add((int) node.low);
    for (Node part : node.parts) {
      start(part, starts);
      if (node.kind == ',' && !emptyable(part, new HashSet<>())) return;
    }
  }

  /** A rule that is asked for while it is being asked for does not follow to be empty-able from that. */
  private boolean emptyable(Node node, Set<Integer> open) {
    switch (node.kind) {
      case 'a': return false;
      case '*': case '?': case '&': case '!': return true;
      case '{': return node.parts.isEmpty() || emptyable(node.part(), open);
      case '(': case '+': return emptyable(node.part(), open);
      case ',':
        for (Node part : node.parts) if (!emptyable(part, open)) return false;
        return true;
      case '/':
        for (Node part : node.parts) if (emptyable(part, open)) return true;
        return false;
      default: {
        int rule = node.low;
        if (patterns[rule] == null || open.contains(rule)) return false;
        Set<Integer> more = new HashSet<>(open);
        more.add(rule);
        return emptyable(patterns[rule], more);
      }
    }
  }

  private boolean goesRound(Node node) {
    if ((node.kind == '*' || node.kind == '+') && emptyable(node.part(), new HashSet<>())) return true;
    for (Node part : node.parts) if (goesRound(part)) return true;
    return false;
  }

  int match(int rule, int place) {
    refuse(rule);
    if (place < 0 || place > text.length()) throw new IndexOutOfBoundsException();
    if (check(rule) != 0) throw new IllegalStateException();
    return matchRule(rule, place);
  }

  int find(int rule) {
    refuse(rule);
    if (check(rule) != 0) throw new IllegalStateException();
    for (int place = 0; place <= text.length(); place++) if (matchRule(rule, place) >= 0) return place;
    return -1;
  }

  private int matchRule(int rule, int place) {
    steps = 0;
    farthest = -1;
    pairs = new HashSet<>();
    Node name = new Node('A');
    name.low = (char) rule;
    Result result = result(name, place);
    captures = result == null ? new ArrayList<>() : result.captures;
    if (captures.size() > 40) captures = captures.subList(0, 40);
    return result == null ? -1 : result.end;
  }

  private static List<int[]> joined(List<int[]> one, List<int[]> other) {
    List<int[]> all = new ArrayList<>(one);
    all.addAll(other);
    return all;
  }

  private Result result(Node node, int place) {
    if (++steps > 200000) throw new TooLong();
    switch (node.kind) {
      case 'a':
        if (place < text.length() && text.charAt(place) >= node.low && text.charAt(place) <= node.high) {
          return new Result(place + 1, List.of());
        }
        farthest = Math.max(farthest, place);
        return null;
      case 'A':
        pairs.add((int) node.low + " at " + place);
        return result(patterns[node.low], place);
      case '(':
        return result(node.part(), place);
      case '{': {
        Result inside = node.parts.isEmpty() ? new Result(place, List.of()) : result(node.part(), place);
        if (inside == null) return null;
        return new Result(inside.end, joined(List.of(new int[] {place, inside.end}), inside.captures));
      }
      case '?': {
        Result inside = result(node.part(), place);
        return inside == null ? new Result(place, List.of()) : inside;
      }
      case '+': {
        Result first = result(node.part(), place);
        if (first == null) return null;
        Result rest = turns(node.part(), first.end);
        return new Result(rest.end, joined(first.captures, rest.captures));
      }
      case '*':
        return turns(node.part(), place);
      case '&':
        return result(node.part(), place) == null ? null : new Result(place, List.of());
      case '!':
        return result(node.part(), place) == null ? new Result(place, List.of()) : null;
      case '/':
        for (Node sequence : node.parts) {
          Result one = result(sequence, place);
          if (one != null) return one;
        }
        return null;
      default: {
        Result all = new Result(place, List.of());
        for (Node item : node.parts) {
          Result next = result(item, all.end);
          if (next == null) return null;
          all = new Result(next.end, joined(all.captures, next.captures));
        }
        return all;
      }
    }
  }

  private Result turns(Node part, int place) {
    Result all = new Result(place, List.of());
    for (Result next = result(part, place); next != null; next = result(part, all.end)) {
      all = new Result(next.end, joined(all.captures, next.captures));
    }
    return all;
  }

  int captures() {
    return captures.size();
  }

  int capture(int i, int what) {
    if (i < 0 || i >= captures.size() || what < 0 || what > 1) throw new IndexOutOfBoundsException();
    return captures.get(i)[what];
  }

  int farthest() {
    return farthest;
  }

  int tried() {
    return pairs.size();
  }

  /** What is told about the latest match, as DueAnswers.latestOf tells it. */
  String latest() {
    StringBuilder s = new StringBuilder("[");
    for (int[] capture : captures) s.append(s.length() == 1 ? "" : " ").append(capture[0]).append('-').append(capture[1]);
    return s.append("] ").append(farthest()).append(' ').append(tried()).toString();
  }
}
