import java.util.function.LongSupplier;

/** Counts and prints the answers that are not due, and feeds texts to barns. */
final class Check {
  private static int wrong = 0;
  private static int asked = 0;

  private Check() {
  }

  static void due(String what, long got, long want) {
    asked++;
    if (got != want) {
      wrong++;
      System.out.println(what + " answered " + got + ", due is " + want);
    }
  }

  static void due(String what, boolean got, boolean want) {
    due(what, got ? 1 : 0, want ? 1 : 0);
  }

  static void due(String what, double got, double want) {
    asked++;
    if (got != want) {
      wrong++;
      System.out.println(what + " answered " + got + ", due is " + want);
    }
  }

  /** The exception has to be of this very class: the machine throws others. */
  static void thrown(String what, Class<? extends RuntimeException> due, LongSupplier call) {
    asked++;
    String got;
    try {
      got = String.valueOf(call.getAsLong());
    } catch (RuntimeException e) {
      if (e.getClass() == due) {
        return;
      }
      got = e.toString();
    }
    wrong++;
    System.out.println(what + " answered " + got + ", due is " + due.getSimpleName());
  }

  static void noHook(String what, LongSupplier call) {
    thrown(what, IndexOutOfBoundsException.class, call);
  }

  static void noState(String what, LongSupplier call) {
    thrown(what, IllegalStateException.class, call);
  }

  static void noArgument(String what, LongSupplier call) {
    thrown(what, IllegalArgumentException.class, call);
  }

  /** Puts the bytes of the text, 0 to 255 each, behind those of the tape. */
  static void feed(HayBarn barn, String text) {
    StringBuilder padded = new StringBuilder(text);
    while (padded.length() % 20 != 0) {
      padded.append(' ');
    }
    int end = 0;
    for (int i = 0; i < padded.length(); i += 20) {
      end = barn.feed(four(padded, i), four(padded, i + 4), four(padded, i + 8),
          four(padded, i + 12), four(padded, i + 16));
    }
    barn.trim(end - (padded.length() - text.length()));
  }

  static int teach(HayBarn barn, String text) {
    feed(barn, text);
    return barn.teach();
  }

  static HayBarn taught(String text) {
    HayBarn barn = new HayBarn();
    due("teach of " + text, teach(barn, text), 0);
    return barn;
  }

  static void end(String test) {
    System.out.println(test + ": " + asked + " answers, " + wrong + " of them not due");
    if (wrong != 0) {
      System.exit(1);
    }
  }

  private static int four(CharSequence text, int from) {
    return text.charAt(from) << 24 | text.charAt(from + 1) << 16
        | text.charAt(from + 2) << 8 | text.charAt(from + 3);
  }
}
