import java.util.ArrayDeque;
import java.util.ArrayList;
import java.util.Arrays;
import java.util.HashMap;
import java.util.HashSet;
import java.util.IdentityHashMap;
import java.util.LinkedHashMap;
import java.util.List;
import java.util.Map;
import java.util.Set;
import java.util.regex.Matcher;
import java.util.regex.Pattern;

/** The document once more, with objects for bales and trees for sums, to compare answers with. */
final class Model {
  static final class Bale {
    int size;
    int age;
    int place;
    boolean loft;
    Bale[] ropes;
  }

  interface Node {
    int reckon(Model m);
  }

  interface Act {
    boolean perform(Model m);
  }

  record Step(Act act, Node test) {
  }

  record Token(String text, int at) {
    boolean isWord() {
      return Character.isLetter(text.charAt(0));
    }

    boolean isNumber() {
      return Character.isDigit(text.charAt(0));
    }

    boolean isName() {
      return isWord() && !KEYWORDS.contains(text);
    }
  }

  static final class Told extends RuntimeException {
    private static final long serialVersionUID = 1L;
    final int error;
    final int at;

    Told(int error, int at) {
      this.error = error;
      this.at = at;
    }
  }

  static final Set<String> KEYWORDS = Set.of("barn", "loft", "promote", "hook", "make", "size",
      "ropes", "tie", "rope", "to", "untie", "follow", "by", "of", "drop", "when", "step", "used",
      "free", "copies", "bales", "age", "has", "same", "not", "and", "or", "min", "max");
  static final Set<String> STEPS = Set.of("make", "tie", "untie", "follow", "drop");
  private static final Pattern TOKEN =
      Pattern.compile("[a-z][a-z0-9]*|[0-9]+|<=|>=|[\\[\\]();,+*/<>=-]");

  int halfPlaces = 16;
  int loftPlaces = 16;
  int promote = 2;
  Map<String, Integer> hookNames = new LinkedHashMap<>();
  List<Step> steps = new ArrayList<>();
  Bale[] hooks = new Bale[0];
  List<Bale> half = new ArrayList<>();
  List<Bale> loft = new ArrayList<>();
  int working;
  int gone;
  int promoted;
  int copyings;
  int stepsGone;
  int refused;

  // ---- reading

  private String tape;
  private List<Token> tokens;
  private int next;
  private int badAt;

  /** A barn as the tape tells it; throws Told for an error. */
  static Model read(String tape) {
    Model m = new Model();
    m.tape = tape;
    m.tokens = new ArrayList<>();
    m.split();
    while (!(m.next == m.tokens.size() && m.badAt == -1)) {
      m.line();
      m.expect(";");
    }
    m.checkTokens();
    m.hooks = new Bale[m.hookNames.size()];
    return m;
  }

  private void split() {
    badAt = -1;
    int at = 0;
    while (at < tape.length()) {
      if (tape.charAt(at) == ' ' || tape.charAt(at) == '\n') {
        at++;
        continue;
      }
      Matcher matcher = TOKEN.matcher(tape).region(at, tape.length());
      if (!matcher.lookingAt() || tokens.size() == 400) {
        badAt = at;
        return;
      }
      String text = matcher.group();
      Token token = new Token(text, at);
      if (token.isWord() && text.length() > 10 || token.isNumber() && text.length() > 6) {
        badAt = at;
        return;
      }
      tokens.add(token);
      at += text.length();
    }
  }

  private int here() {
    if (next < tokens.size()) {
      return tokens.get(next).at;
    }
    return badAt == -1 ? tape.length() : badAt;
  }

  private String peek() {
    return next < tokens.size() ? tokens.get(next).text : "";
  }

  private Told wrong() {
    return new Told(1, here());
  }

  private void expect(String text) {
    if (!peek().equals(text)) {
      throw wrong();
    }
    next++;
  }

  private boolean accept(String text) {
    if (peek().equals(text)) {
      next++;
      return true;
    }
    return false;
  }

  private String name() {
    if (next >= tokens.size() || !tokens.get(next).isName()) {
      throw wrong();
    }
    return tokens.get(next++).text;
  }

  private int number() {
    if (next >= tokens.size() || !tokens.get(next).isNumber()) {
      throw wrong();
    }
    return Integer.parseInt(tokens.get(next++).text);
  }

  private void line() {
    if (accept("barn")) {
      halfPlaces = number();
    } else if (accept("loft")) {
      loftPlaces = number();
    } else if (accept("promote")) {
      promote = number();
    } else if (accept("hook")) {
      hookNames.putIfAbsent(name(), hookNames.size());
    } else {
      Act act = act();
      steps.add(new Step(act, accept("when") ? test(0) : m -> 1));
    }
  }

  private Act act() {
    if (accept("make")) {
      String a = name();
      expect("size");
      Node sum = sum(0);
      expect("ropes");
      int ropes = number();
      return m -> m.make(m.hook(a), Math.max(1, Math.min(9, sum.reckon(m))), ropes);
    }
    if (accept("tie")) {
      String a = name();
      expect("rope");
      int rope = number();
      expect("to");
      String b = name();
      return m -> m.tie(m.hook(a), rope, m.hook(b));
    }
    if (accept("untie")) {
      String a = name();
      expect("rope");
      int rope = number();
      return m -> m.untie(m.hook(a), rope);
    }
    if (accept("follow")) {
      String a = name();
      expect("by");
      String b = name();
      expect("rope");
      int rope = number();
      return m -> m.follow(m.hook(a), m.hook(b), rope);
    }
    expect("drop");
    String a = name();
    return m -> m.drop(m.hook(a));
  }

  private int hook(String name) {
    return hookNames.get(name);
  }

  private void deeper(String text, int depth) {
    if (depth == 8) {
      throw wrong();
    }
    expect(text);
  }

  private Node test(int depth) {
    Node left = both(depth);
    while (accept("or")) {
      Node a = left;
      Node b = both(depth);
      left = m -> a.reckon(m) + b.reckon(m) > 0 ? 1 : 0;
    }
    return left;
  }

  private Node both(int depth) {
    Node left = single(depth);
    while (accept("and")) {
      Node a = left;
      Node b = single(depth);
      left = m -> a.reckon(m) * b.reckon(m);
    }
    return left;
  }

  private Node single(int depth) {
    if (peek().equals("not")) {
      deeper("not", depth);
      Node a = single(depth + 1);
      return m -> a.reckon(m) == 1 ? 0 : 1;
    }
    if (peek().equals("[")) {
      deeper("[", depth);
      Node a = test(depth + 1);
      expect("]");
      return a;
    }
    if (accept("has")) {
      String a = name();
      return m -> m.hooks[m.hook(a)] != null ? 1 : 0;
    }
    if (accept("same")) {
      String a = name();
      String b = name();
      return m -> m.hooks[m.hook(a)] != null && m.hooks[m.hook(a)] == m.hooks[m.hook(b)] ? 1 : 0;
    }
    Node left = sum(depth);
    String relation = peek();
    if (!List.of("<", ">", "=", "<=", ">=").contains(relation)) {
      throw wrong();
    }
    next++;
    Node right = sum(depth);
    return m -> {
      int order = Integer.compare(left.reckon(m), right.reckon(m));
      boolean strict = relation.startsWith("<") && order < 0 || relation.startsWith(">") && order > 0;
      return strict || relation.endsWith("=") && order == 0 ? 1 : 0;
    };
  }

  private Node sum(int depth) {
    Node left = product(depth);
    while (peek().equals("+") || peek().equals("-")) {
      boolean plus = peek().equals("+");
      next++;
      Node a = left;
      Node b = product(depth);
      left = m -> (int) ((long) a.reckon(m) + (plus ? 1L : -1L) * b.reckon(m));
    }
    return left;
  }

  private Node product(int depth) {
    Node left = value(depth);
    while (peek().equals("*") || peek().equals("/")) {
      boolean times = peek().equals("*");
      next++;
      Node a = left;
      Node b = value(depth);
      left = m -> {
        long x = a.reckon(m);
        long y = b.reckon(m);
        return (int) (times ? x * y : y == 0 ? 0 : x / y);
      };
    }
    return left;
  }

  private Node value(int depth) {
    if (peek().equals("-")) {
      deeper("-", depth);
      Node a = value(depth + 1);
      return m -> (int) -(long) a.reckon(m);
    }
    if (peek().equals("(")) {
      deeper("(", depth);
      Node a = sum(depth + 1);
      expect(")");
      return a;
    }
    if (peek().equals("min") || peek().equals("max")) {
      boolean min = peek().equals("min");
      next++;
      deeper("(", depth);
      Node a = sum(depth + 1);
      expect(",");
      Node b = sum(depth + 1);
      expect(")");
      return m -> min ? Math.min(a.reckon(m), b.reckon(m)) : Math.max(a.reckon(m), b.reckon(m));
    }
    if (peek().equals("size") || peek().equals("age")) {
      boolean size = peek().equals("size");
      next++;
      expect("of");
      String a = name();
      return m -> {
        Bale bale = m.hooks[m.hook(a)];
        return bale == null ? 0 : size ? bale.size : bale.age;
      };
    }
    if (accept("step")) {
      return m -> m.stepsGone;
    }
    if (accept("used")) {
      return Model::used;
    }
    if (accept("free")) {
      return m -> m.halfPlaces - m.used();
    }
    if (accept("copies")) {
      return m -> m.copyings;
    }
    if (accept("bales")) {
      return m -> m.half.size() + m.loft.size();
    }
    int number = number();
    return m -> number;
  }

  /** Errors 2 to 5, by the words ahead of each token. */
  private void checkTokens() {
    Set<String> told = new HashSet<>();
    int stepCount = 0;
    for (int i = 0; i < tokens.size(); i++) {
      Token token = tokens.get(i);
      String before = i == 0 ? ";" : tokens.get(i - 1).text;
      if (token.isName() && before.equals("hook")) {
        if (!told.add(token.text)) {
          throw new Told(2, token.at);
        }
        if (told.size() == 7) {
          throw new Told(4, token.at);
        }
      } else if (token.isName() && !told.contains(token.text)) {
        throw new Told(3, token.at);
      } else if (STEPS.contains(token.text) && before.equals(";") && ++stepCount > 20) {
        throw new Told(4, token.at);
      } else if (token.isNumber()) {
        int number = Integer.parseInt(token.text);
        int least = before.equals("barn") ? 8 : 0;
        int most = switch (before) {
          case "barn", "loft" -> 64;
          case "promote" -> 5;
          case "rope", "ropes" -> 3;
          default -> Integer.MAX_VALUE;
        };
        if (number < least || number > most) {
          throw new Told(5, token.at);
        }
      }
    }
  }

  // ---- the barn

  int used() {
    return half.stream().mapToInt(b -> b.size).sum();
  }

  int usedInLoft() {
    return loft.stream().mapToInt(b -> b.size).sum();
  }

  private boolean[] loftPlan() {
    boolean[] taken = new boolean[loftPlaces];
    for (Bale bale : loft) {
      Arrays.fill(taken, bale.place, bale.place + bale.size, true);
    }
    return taken;
  }

  /** Beginnings and widths of all gaps, in order. */
  private List<int[]> gaps() {
    List<int[]> gaps = new ArrayList<>();
    boolean[] taken = loftPlan();
    int from = 0;
    for (int place = 0; place <= loftPlaces; place++) {
      if (place == loftPlaces || taken[place]) {
        if (place > from) {
          gaps.add(new int[] {from, place - from});
        }
        from = place + 1;
      }
    }
    return gaps;
  }

  int longestGap() {
    return gaps().stream().mapToInt(gap -> gap[1]).max().orElse(0);
  }

  private static void reach(Bale bale, Set<Bale> reached) {
    if (bale != null && reached.add(bale)) {
      for (Bale to : bale.ropes) {
        reach(to, reached);
      }
    }
  }

  private Set<Bale> reached() {
    Set<Bale> reached = new HashSet<>();
    for (Bale bale : hooks) {
      reach(bale, reached);
    }
    return reached;
  }

  int useless() {
    return half.size() + loft.size() - reached().size();
  }

  int between(int a, int b) {
    Map<Bale, Integer> away = new HashMap<>();
    ArrayDeque<Bale> queue = new ArrayDeque<>();
    away.put(hooks[a], 0);
    queue.add(hooks[a]);
    while (!queue.isEmpty()) {
      Bale bale = queue.remove();
      for (Bale to : bale.ropes) {
        if (to != null && away.putIfAbsent(to, away.get(bale) + 1) == null) {
          queue.add(to);
        }
      }
    }
    return away.getOrDefault(hooks[b], -1);
  }

  int copy() {
    List<Bale> old = half;
    List<Bale> before = new ArrayList<>(loft);
    half = new ArrayList<>();
    working = working == 0 ? 1 : 0;
    copyings++;
    List<Bale> taken = new ArrayList<>();
    for (Bale bale : hooks) {
      take(bale, old, taken);
    }
    for (Bale bale : before) {
      for (Bale to : bale.ropes) {
        take(to, old, taken);
      }
    }
    for (int i = 0; i < taken.size(); i++) {
      for (Bale to : taken.get(i).ropes) {
        take(to, old, taken);
      }
    }
    gone += old.size() - taken.size();
    return old.size() - taken.size();
  }

  private void take(Bale bale, List<Bale> old, List<Bale> taken) {
    if (bale == null || !old.contains(bale) || taken.contains(bale)) {
      return;
    }
    taken.add(bale);
    if (bale.age >= promote) {
      for (int[] gap : gaps()) {
        if (gap[1] >= bale.size) {
          bale.loft = true;
          bale.place = gap[0];
          loft.add(bale);
          loft.sort((a, b) -> a.place - b.place);
          promoted++;
          return;
        }
      }
    }
    bale.place = used();
    bale.age++;
    half.add(bale);
  }

  int sweep() {
    Set<Bale> reached = reached();
    List<Bale> lost = new ArrayList<>(loft);
    lost.removeAll(reached);
    loft.removeAll(lost);
    for (List<Bale> list : List.of(half, loft)) {
      for (Bale bale : list) {
        for (int rope = 0; rope < bale.ropes.length; rope++) {
          if (lost.contains(bale.ropes[rope])) {
            bale.ropes[rope] = null;
          }
        }
      }
    }
    gone += lost.size();
    return lost.size();
  }

  boolean make(int hook, int size, int ropes) {
    if (used() + size > halfPlaces) {
      copy();
    }
    if (used() + size > halfPlaces) {
      return false;
    }
    Bale bale = new Bale();
    bale.size = size;
    bale.ropes = new Bale[ropes];
    bale.place = used();
    half.add(bale);
    hooks[hook] = bale;
    return true;
  }

  private boolean hasRope(int hook, int rope) {
    return hooks[hook] != null && rope >= 0 && rope < hooks[hook].ropes.length;
  }

  boolean tie(int hook, int rope, int to) {
    if (hooks[to] == null || !hasRope(hook, rope)) {
      return false;
    }
    hooks[hook].ropes[rope] = hooks[to];
    return true;
  }

  boolean untie(int hook, int rope) {
    if (!hasRope(hook, rope)) {
      return false;
    }
    hooks[hook].ropes[rope] = null;
    return true;
  }

  boolean follow(int hook, int of, int rope) {
    if (!hasRope(of, rope) || hooks[of].ropes[rope] == null) {
      return false;
    }
    hooks[hook] = hooks[of].ropes[rope];
    return true;
  }

  boolean drop(int hook) {
    boolean held = hooks[hook] != null;
    hooks[hook] = null;
    return held;
  }

  int work(int count) {
    int done = 0;
    for (int i = 0; i < count; i++) {
      Step step = steps.get(stepsGone % steps.size());
      if (step.test.reckon(this) == 1) {
        if (step.act.perform(this)) {
          done++;
        } else {
          refused++;
        }
      }
      stepsGone++;
    }
    return done;
  }

  Model twin() {
    Model twin = new Model();
    IdentityHashMap<Bale, Bale> twins = new IdentityHashMap<>();
    twin.halfPlaces = halfPlaces;
    twin.loftPlaces = loftPlaces;
    twin.promote = promote;
    twin.hookNames = hookNames;
    twin.steps = steps;
    twin.working = working;
    twin.gone = gone;
    twin.promoted = promoted;
    twin.copyings = copyings;
    twin.stepsGone = stepsGone;
    twin.refused = refused;
    half.forEach(bale -> twin.half.add(twinOf(bale, twins)));
    loft.forEach(bale -> twin.loft.add(twinOf(bale, twins)));
    twin.hooks = new Bale[hooks.length];
    for (int hook = 0; hook < hooks.length; hook++) {
      twin.hooks[hook] = twinOf(hooks[hook], twins);
    }
    return twin;
  }

  private static Bale twinOf(Bale bale, IdentityHashMap<Bale, Bale> twins) {
    if (bale == null || twins.containsKey(bale)) {
      return twins.get(bale);
    }
    Bale twin = new Bale();
    twins.put(bale, twin);
    twin.size = bale.size;
    twin.age = bale.age;
    twin.place = bale.place;
    twin.loft = bale.loft;
    twin.ropes = new Bale[bale.ropes.length];
    for (int rope = 0; rope < bale.ropes.length; rope++) {
      twin.ropes[rope] = twinOf(bale.ropes[rope], twins);
    }
    return twin;
  }

  int untilCopying() {
    Model twin = twin();
    for (int step = 1; step <= 100 && !steps.isEmpty(); step++) {
      twin.work(1);
      if (twin.copyings > copyings) {
        return step;
      }
    }
    return -1;
  }

  int usedAfter(int count) {
    Model twin = twin();
    twin.work(count);
    return twin.used();
  }

  int usedIfCopied() {
    Model twin = twin();
    twin.copy();
    return twin.used();
  }

  double meanSize() {
    int count = half.size() + loft.size();
    return count == 0 ? 0.0 : (used() + usedInLoft()) / (double) count;
  }

  long[] counts() {
    return new long[] {hooks.length, steps.size(), halfPlaces, stepsGone, refused, working, used(),
        usedInLoft(), longestGap(), half.size() + loft.size(), loft.size(), useless(), copyings,
        promoted, gone};
  }

  private static long lead(Bale bale) {
    return bale == null ? 0 : bale.place + (bale.loft ? 101 : 1);
  }

  long digest() {
    List<Long> numbers = new ArrayList<>();
    Arrays.stream(counts()).forEach(numbers::add);
    for (List<Bale> list : List.of(half, loft)) {
      for (Bale bale : list) {
        numbers.addAll(List.of((long) bale.place, (long) bale.size, (long) bale.age));
        numbers.add((long) bale.ropes.length);
        for (Bale to : bale.ropes) {
          numbers.add(lead(to));
        }
      }
    }
    for (Bale bale : hooks) {
      numbers.add(lead(bale));
    }
    long d = 971;
    for (long number : numbers) {
      d = d * 31 + number;
    }
    return d;
  }
}
