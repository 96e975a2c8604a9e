import java.util.ArrayList;
import java.util.List;

/**
 * Runs of calls, drawn from a seed, on a barn and on the model: all answers have to be the same. A
 * run ends ahead of the 513th call, as answers are free from there on.
 */
public final class ModelTest {
  private static final int RUNS = 8000;
  private static final int CALL_LIMIT = 512;
  private static final int CALLS_BETWEEN = 30;

  private long seed;
  private final HayBarn barn = new HayBarn();
  private Model model = new Model();
  private String run;
  private int calls = 0;

  private ModelTest(int number) {
    seed = number * 0x9E3779B97F4A7C15L + 1;
    run = "run " + number;
  }

  public static void main(String[] args) {
    int[] errors = new int[6];
    for (int number = 0; number < RUNS; number++) {
      new ModelTest(number).go(errors);
    }
    for (int error = 0; error <= 5; error++) {
      Check.due("error " + error + " came often", errors[error] > RUNS / 20, true);
    }
    Check.end("ModelTest");
  }

  /** A number from 0 to below the bound. */
  private int draw(int bound) {
    seed = seed * 6364136223846793005L + 1442695040888963407L;
    return (int) ((seed >>> 33) % bound);
  }

  private String pick(String... texts) {
    return texts[draw(texts.length)];
  }

  private void go(int[] errors) {
    for (int tries = 0; tries < 4; tries++) {
      errors[teach(draw(3) == 0 ? mutated(program()) : program())]++;
    }
    for (int call = 1; calls + 2 + callsToCompare() <= CALL_LIMIT; call++) {
      callOnce(run + ", call " + call);
      Check.due(run + " digest behind call " + call, barn.digest(), model.digest());
      calls += 2;
      if (call % CALLS_BETWEEN == 0) {
        compare(run + " behind call " + call);
      }
    }
    if (calls + callsToCompare() <= CALL_LIMIT) {
      compare(run + " at its end");
    }
  }

  /** For each hook nine calls and three ropes at most, and two for each other hook. */
  private int callsToCompare() {
    return 20 + model.hooks.length * (12 + 2 * model.hooks.length);
  }

  private int teach(String tape) {
    int due = 0;
    int at = -1;
    try {
      model = Model.read(tape);
    } catch (Model.Told told) {
      due = told.error;
      at = told.at;
    }
    calls += tape.length() / 20 + 4;
    Check.due(run + " teach of " + tape, Check.teach(barn, tape), due);
    Check.due(run + " errorAt of " + tape, barn.errorAt(), at);
    return due;
  }

  // ---- programs

  private String name() {
    return draw(150) == 0 ? "x" : pick("a", "b", "c", "d");
  }

  private String rope() {
    return draw(150) == 0 ? "4" : pick("0", "0", "1", "2", "3");
  }

  private String program() {
    StringBuilder text = new StringBuilder();
    if (draw(3) > 0) {
      text.append("barn ").append(draw(100) == 0 ? 7 : 8 + draw(30)).append(";");
    }
    if (draw(3) > 0) {
      text.append("loft ").append(draw(100) == 0 ? 65 : draw(30)).append("; ");
    }
    if (draw(3) > 0) {
      text.append("promote ").append(draw(60) == 0 ? 6 : draw(4)).append(";\n");
    }
    text.append("hook a; hook b;hook c; hook ").append(draw(60) == 0 ? "b" : "d").append("; ");
    if (draw(30) == 0) {
      text.append("hook e; hook f; hook ").append(pick("g", "f")).append(";");
    }
    int steps = draw(25) == 0 ? 19 + draw(4) : draw(12);
    for (int i = 0; i < steps; i++) {
      text.append(step(steps > 15)).append("; ");
    }
    return text.toString();
  }

  private String step(boolean small) {
    String when = draw(3) > 0 || small ? "" : " when " + test(3);
    return switch (draw(9)) {
      case 0, 1, 2, 3 -> "make " + name() + " size " + sum(small ? 0 : 3) + " ropes " + rope() + when;
      case 4, 5 -> "tie " + name() + " rope " + rope() + " to " + name() + when;
      case 6 -> "untie " + name() + " rope " + rope() + when;
      case 7 -> "follow " + name() + " by " + name() + " rope " + rope() + when;
      default -> "drop " + name() + when;
    };
  }

  private String test(int depth) {
    return switch (depth == 0 ? draw(4) : draw(9)) {
      case 0 -> "has " + name();
      case 1 -> "same " + name() + " " + name();
      case 2, 3 -> sum(Math.max(depth - 1, 0)) + pick("<", ">", "=", "<=", ">=") + sum(0);
      case 4 -> "not " + test(depth - 1);
      case 5 -> "[" + test(depth - 1) + "]";
      case 6 -> test(depth - 1) + " and " + test(depth - 1);
      default -> test(depth - 1) + " or " + test(depth - 1);
    };
  }

  private String sum(int depth) {
    return switch (depth == 0 ? draw(4) : draw(11)) {
      case 0, 1 -> String.valueOf(draw(40) == 0 ? draw(1000000) : draw(12));
      case 2 -> pick("step", "used", "free", "copies", "bales");
      case 3 -> pick("size", "age") + " of " + name();
      case 4 -> "-" + sum(depth - 1);
      case 5 -> "(" + sum(depth - 1) + ")";
      case 6 -> pick("min", "max") + "(" + sum(depth - 1) + ", " + sum(depth - 1) + ")";
      default -> sum(depth - 1) + " " + pick("+", "-", "*", "/") + " " + sum(depth - 1);
    };
  }

  private String mutated(String text) {
    StringBuilder all = new StringBuilder(text);
    int changes = 1 + draw(2);
    for (int i = 0; i < changes && all.length() > 2; i++) {
      int at = draw(all.length() - 1);
      switch (draw(7)) {
        case 0 -> all.deleteCharAt(at);
        case 1 -> all.insert(at, pick(" ", "\n", ";", "9", "a", "(", ")", "[", "]", "-", "not "));
        case 2 -> all.setCharAt(at, (char) draw(256));
        case 3 -> all.setLength(at);
        case 4 -> all.insert(at, pick("--------", "((((((((", "[[[[[[[[", "abcdefghij", "123456"));
        case 5 -> swap(all);
        default -> all.insert(at, all.substring(at, Math.min(all.length(), at + draw(20))));
      }
    }
    all.setLength(Math.min(all.length(), 1900));
    return all.toString();
  }

  /** Changes two lines, so that names come ahead of their hooks. */
  private void swap(StringBuilder all) {
    List<String> lines = new ArrayList<>(List.of(all.toString().split(";")));
    int one = draw(lines.size());
    String line = lines.remove(one);
    lines.add(draw(lines.size() + 1), line);
    all.setLength(0);
    all.append(String.join(";", lines)).append(";");
  }

  // ---- calls

  private int hook() {
    return draw(25) == 0 ? draw(2) * 5 - 1 : draw(4);
  }

  private boolean isHook(int hook) {
    return hook >= 0 && hook < model.hooks.length;
  }

  private void callOnce(String what) {
    switch (draw(17)) {
      case 0, 1, 2 -> make(what);
      case 3, 4, 5 -> tie(what);
      case 6, 7 -> follow(what);
      case 8 -> drop(what);
      case 9 -> Check.due(what + " copyNow", barn.copyNow(), model.copy());
      case 10 -> Check.due(what + " sweepLoft", barn.sweepLoft(), model.sweep());
      case 11 -> usedAfter(what);
      case 12 -> Check.due(what + " until", barn.stepsUntilCopying(), model.untilCopying());
      case 13 -> Check.due(what + " usedIfCopied", barn.usedIfCopied(), model.usedIfCopied());
      default -> work(what);
    }
  }

  private void make(String what) {
    int hook = hook();
    int size = draw(20) == 0 ? draw(2) * 10 : 1 + draw(draw(2) == 0 ? 9 : 3);
    int ropes = draw(20) == 0 ? draw(2) * 5 - 1 : draw(4);
    String call = what + " make " + hook + " " + size + " " + ropes;
    if (!isHook(hook)) {
      Check.noHook(call, () -> barn.make(hook, size, ropes));
    } else if (size < 1 || size > 9 || ropes < 0 || ropes > 3) {
      Check.noArgument(call, () -> barn.make(hook, size, ropes));
    } else if (model.make(hook, size, ropes)) {
      Check.due(call, barn.make(hook, size, ropes), model.hooks[hook].place);
    } else {
      Check.noState(call, () -> barn.make(hook, size, ropes));
    }
  }

  private void tie(String what) {
    int hook = hook();
    int rope = draw(5) - draw(2);
    int to = hook();
    String call = what + " tie " + hook + " " + rope + " " + to;
    if (!isHook(hook) || !isHook(to)) {
      Check.noHook(call, () -> barn.tie(hook, rope, to));
    } else if (model.tie(hook, rope, to)) {
      int leads = 0;
      for (Model.Bale bale : model.hooks[hook].ropes) {
        leads += bale == null ? 0 : 1;
      }
      Check.due(call, barn.tie(hook, rope, to), leads);
    } else {
      Check.noState(call, () -> barn.tie(hook, rope, to));
    }
  }

  private void follow(String what) {
    int hook = hook();
    int of = hook();
    int rope = draw(5) - draw(2);
    String call = what + " follow " + hook + " " + of + " " + rope;
    if (!isHook(hook) || !isHook(of)) {
      Check.noHook(call, () -> barn.follow(hook, of, rope));
    } else if (model.follow(hook, of, rope)) {
      Check.due(call, barn.follow(hook, of, rope), model.hooks[hook].place);
    } else {
      Check.noState(call, () -> barn.follow(hook, of, rope));
    }
  }

  private void drop(String what) {
    int hook = hook();
    String call = what + " drop " + hook;
    if (!isHook(hook)) {
      Check.noHook(call, () -> barn.drop(hook));
    } else if (model.drop(hook)) {
      Check.due(call, barn.drop(hook), model.useless());
    } else {
      Check.noState(call, () -> barn.drop(hook));
    }
  }

  private void work(String what) {
    int steps = draw(20) == 0 ? draw(2) * 101 : 1 + draw(draw(4) == 0 ? 100 : 8);
    String call = what + " work " + steps;
    if (steps < 1 || steps > 100) {
      Check.noArgument(call, () -> barn.work(steps));
    } else if (model.steps.isEmpty()) {
      Check.noState(call, () -> barn.work(steps));
    } else {
      Check.due(call, barn.work(steps), model.work(steps));
    }
  }

  private void usedAfter(String what) {
    int steps = draw(20) == 0 ? draw(2) * 101 : 1 + draw(100);
    String call = what + " usedAfter " + steps;
    if (steps < 1 || steps > 100) {
      Check.noArgument(call, () -> barn.usedAfter(steps));
    } else if (model.steps.isEmpty()) {
      Check.noState(call, () -> barn.usedAfter(steps));
    } else {
      Check.due(call, barn.usedAfter(steps), model.usedAfter(steps));
    }
  }

  // ---- what is asked now and then

  private void compare(String what) {
    calls += callsToCompare();
    long[] got = {barn.hooks(), barn.steps(), barn.placesOfHalf(), barn.stepsGoneBy(),
        barn.stepsRefused(), barn.workingHalf(), barn.usedPlaces(), barn.usedInLoft(),
        barn.longestGap(), barn.bales(), barn.balesInLoft(), barn.uselessBales(), barn.copyings(),
        barn.balesPromoted(), barn.balesGone()};
    long[] due = model.counts();
    for (int i = 0; i < due.length; i++) {
      Check.due(what + " count " + i, got[i], due[i]);
    }
    Check.due(what + " stepsUntilCopying", barn.stepsUntilCopying(), model.untilCopying());
    Check.due(what + " usedIfCopied", barn.usedIfCopied(), model.usedIfCopied());
    Check.due(what + " meanSize", barn.meanSize(), model.meanSize());
    for (int hook = 0; hook < model.hooks.length; hook++) {
      compareHook(what + " hook " + hook, hook);
    }
    Check.due(what + " digest", barn.digest(), model.digest());
  }

  private void compareHook(String what, int hook) {
    Model.Bale bale = model.hooks[hook];
    Check.due(what + " holdsBale", barn.holdsBale(hook), bale != null);
    for (int other = 0; other < model.hooks.length; other++) {
      int to = other;
      boolean same = bale != null && bale == model.hooks[to];
      Check.due(what + " holdSame " + to, barn.holdSame(hook, to), same);
      if (bale != null && model.hooks[to] != null) {
        Check.due(what + " ropesBetween", barn.ropesBetween(hook, to), model.between(hook, to));
      } else {
        Check.noState(what + " ropesBetween", () -> barn.ropesBetween(hook, to));
      }
    }
    if (bale == null) {
      Check.noState(what + " placeOf", () -> barn.placeOf(hook));
      return;
    }
    Check.due(what + " placeOf", barn.placeOf(hook), bale.place);
    Check.due(what + " sizeOf", barn.sizeOf(hook), bale.size);
    Check.due(what + " ropesOf", barn.ropesOf(hook), bale.ropes.length);
    Check.due(what + " ageOf", barn.ageOf(hook), bale.age);
    Check.due(what + " isInLoft", barn.isInLoft(hook), bale.loft);
    for (int rope = 0; rope < bale.ropes.length; rope++) {
      Check.due(what + " ropeLeads", barn.ropeLeads(hook, rope), bale.ropes[rope] != null);
    }
  }
}
