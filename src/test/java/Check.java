import java.util.function.LongSupplier;

/** Counts and prints the answers that are not due, and feeds texts to barns. */
final class Check {
  private static int wrong = 0;
  private static int asked = 0;

  private Check() {
  }

  static void due(String what, long got, long want) {
    asked++;
    if (got != want) {
      wrong++;
      System.out.println(what + " answered " + got + ", due is " + want);
    }
  }

  static void due(String what, boolean got, boolean want) {
    due(what, got ? 1 : 0, want ? 1 : 0);
  }

  static void due(String what, double got, double want) {
    asked++;
    if (got != want) {
      wrong++;
      System.out.println(what + " answered " + got + ", due is " + want);
    }
  }

  /** The exception has to be of this very class: the machine throws others. */
  static void thrown(String what, Class<? extends RuntimeException> due, LongSupplier call) {
    asked++;
    String got;
    try {
      got = String.valueOf(call.getAsLong());
    } catch (RuntimeException e) {
      if (e.getClass() == due) {
        return;
      }
      got = e.toString();
    }
    wrong++;
    System.out.println(what + " answered " + got + ", due is " + due.getSimpleName());
  }

  static void noHook(String what, LongSupplier call) {
    thrown(what, IndexOutOfBoundsException.class, call);
  }

  static void noState(String what, LongSupplier call) {
    thrown(what, IllegalStateException.class, call);
  }

  static void noArgument(String what, LongSupplier call) {
    thrown(what, IllegalArgumentException.class, call);
  }

  /** Puts the bytes of the text, 0 to 255 each, behind those of the tape. */
  static void feed(HayBarn barn, String text) {
    StringBuilder padded = new StringBuilder(text);
    while (padded.length() % 20 != 0) {
      padded.append(' ');
    }
    int end = 0;
    for (int i = 0; i < padded.length(); i += 20) {
      end = barn.feed(four(padded, i), four(padded, i + 4), four(padded, i + 8),
          four(padded, i + 12), four(padded, i + 16));
    }
    barn.trim(end - (padded.length() - text.length()));
  }

  static int teach(HayBarn barn, String text) {
    feed(barn, text);
    return barn.teach();
  }

  /** One test of one sentence of the document: what it throws breaks it, but not the others. */
  static void sentence(String words, Runnable test) {
    int before = wrong;
    try {
      test.run();
    } catch (RuntimeException | StackOverflowError e) {
      wrong++;
      System.out.println("it ended with " + e);
    }
    if (wrong != before) {
      System.out.println("BROKEN: " + words);
    }
  }

  /** The call throws, and neither the barn nor what it will do is another one behind it. */
  static void refused(HayBarn barn, String what, Class<? extends RuntimeException> due,
      LongSupplier call) {
    long before = state(barn);
    thrown(what, due, call);
    due("all is as ahead of " + what, state(barn), before);
  }

  /** What can be asked without hooks and told to a digest, and what would be. */
  static long state(HayBarn barn) {
    long state = barn.digest() * 31 + barn.errorAt();
    state = state * 31 + barn.stepsUntilCopying();
    state = state * 31 + barn.usedIfCopied();
    return barn.steps() == 0 ? state : state * 31 + barn.usedAfter(7);
  }

  static void error(String text, int error, int at) {
    HayBarn x = new HayBarn();
    due("teach of " + text, teach(x, text), error);
    due("errorAt of " + text, x.errorAt(), at);
  }

  /** As error(), but the text shows by a @ where the error is. */
  static void errorHere(int error, String marked) {
    int at = marked.indexOf('@');
    error(marked.substring(0, at) + marked.substring(at + 1), error, at);
  }

  static void fine(String text) {
    error(text, 0, -1);
  }

  /** The size of a bale that a step makes by the sum, with a and b as hooks that hold none. */
  static void sizeBySum(String sum, int size) {
    HayBarn x = taught("hook a; hook b; make a size " + sum + " ropes 2;");
    due("work of " + sum, x.work(1), 1);
    due("size of " + sum, x.sizeOf(0), size);
    due("ropes of " + sum, x.ropesOf(0), 2);
  }

  /** Whether the test holds; a has a bale of size 2, b one of size 3, c none. */
  static void holds(String test, boolean holds) {
    HayBarn x = taught("hook a; hook b; hook c; drop a when " + test + ";");
    x.make(0, 2, 1);
    x.make(1, 3, 1);
    x.tie(0, 0, 1);
    due("work when " + test, x.work(1), holds ? 1 : 0);
    due("a is held when " + test, x.holdsBale(0), !holds);
    due("refused when " + test, x.stepsRefused(), 0);
  }

  static HayBarn taught(String text) {
    HayBarn barn = new HayBarn();
    due("teach of " + text, teach(barn, text), 0);
    return barn;
  }

  static void end(String test) {
    System.out.println(test + ": " + asked + " answers, " + wrong + " of them not due");
    if (wrong != 0) {
      System.exit(1);
    }
  }

  private static int four(CharSequence text, int from) {
    return text.charAt(from) << 24 | text.charAt(from + 1) << 16
        | text.charAt(from + 2) << 8 | text.charAt(from + 3);
  }
}
