/** Promises 9, 10 and 36 to 39: steps, sums and tests, and what would be. */
public final class WorkTest {
  public static void main(String[] args) {
    wrongNumbers();
    stepsInTurn();
    doneAndRefused();
    makeSteps();
    sums();
    wrapping();
    tests();
    stateInSums();
    refusedMakeCopies();
    untilCopying();
    usedLater();
    askingChangesNothing();
    Check.end("WorkTest");
  }

  private static void wrongNumbers() {
    HayBarn x = Check.taught("hook a; drop a;");
    HayBarn none = Check.taught("hook a;");
    for (int steps : new int[] {0, 101, -1, Integer.MIN_VALUE, Integer.MAX_VALUE}) {
      Check.noArgument("work " + steps, () -> x.work(steps));
      Check.noArgument("usedAfter " + steps, () -> x.usedAfter(steps));
      Check.noArgument("work without steps " + steps, () -> none.work(steps));
      Check.noArgument("usedAfter without steps " + steps, () -> none.usedAfter(steps));
    }
    for (int steps : new int[] {1, 100}) {
      Check.noState("work without steps " + steps, () -> none.work(steps));
      Check.noState("usedAfter without steps " + steps, () -> none.usedAfter(steps));
      Check.due("work " + steps, x.work(steps), 0);
      Check.due("usedAfter " + steps, x.usedAfter(steps), 0);
    }
    Check.due("stepsGoneBy", x.stepsGoneBy(), 101);
    Check.due("stepsRefused", x.stepsRefused(), 101);
    Check.due("stepsUntilCopying without steps", none.stepsUntilCopying(), -1);
    Check.due("usedIfCopied without steps", none.usedIfCopied(), 0);
  }

  private static void stepsInTurn() {
    HayBarn x = Check.taught("hook a; hook b; make a size 2 ropes 1; make b size 3 ropes 1; drop a;");
    Check.due("work 1", x.work(1), 1);
    Check.due("a", x.holdsBale(0), true);
    Check.due("b not yet", x.holdsBale(1), false);
    Check.due("work 1 more", x.work(1), 1);
    Check.due("b", x.placeOf(1), 2);
    x.make(0, 1, 1);
    Check.due("work 2 more", x.work(2), 2);
    Check.due("a is dropped, and made anew", x.placeOf(0), 6);
    Check.due("stepsGoneBy", x.stepsGoneBy(), 4);
    Check.due("work 100", x.work(100), 100);
    Check.due("stepsGoneBy behind", x.stepsGoneBy(), 104);
    Check.due("b is held", x.holdsBale(1), true);
  }

  private static void doneAndRefused() {
    HayBarn x = Check.taught("hook a; hook b; drop a; drop a when 1 = 2; untie a rope 0;"
        + "tie a rope 0 to a; follow a by a rope 0; make a size 1 ropes 1; tie a rope 0 to b;"
        + "untie a rope 1; follow b by a rope 0; untie a rope 0; tie a rope 1 to a;"
        + "tie a rope 0 to a; follow b by a rope 0; follow b by b rope 1; untie b rope 0; drop a;");
    Check.due("drop refused", x.work(1), 0);
    Check.due("refused 1", x.stepsRefused(), 1);
    Check.due("drop passed over", x.work(1), 0);
    Check.due("refused 1 still", x.stepsRefused(), 1);
    Check.due("untie, tie, follow refused", x.work(3), 0);
    Check.due("refused 4", x.stepsRefused(), 4);
    Check.due("make done", x.work(1), 1);
    Check.due("tie to none, untie of no rope, follow to none", x.work(3), 0);
    Check.due("refused 7", x.stepsRefused(), 7);
    Check.due("untie a rope that leads to none", x.work(1), 1);
    Check.due("tie of no rope", x.work(1), 0);
    Check.due("refused 8", x.stepsRefused(), 8);
    Check.due("tie and follow", x.work(2), 2);
    Check.due("holdSame", x.holdSame(0, 1), true);
    Check.due("follow by no rope, then untie", x.work(2), 1);
    Check.due("refused 9", x.stepsRefused(), 9);
    Check.due("untied", x.ropeLeads(0, 0), false);
    Check.due("drop", x.work(1), 1);
    Check.due("a holds none", x.holdsBale(0), false);
    Check.due("b holds it still", x.holdsBale(1), true);
    Check.due("stepsGoneBy", x.stepsGoneBy(), 16);
  }

  private static void size(String sum, int size) {
    Check.sizeBySum(sum, size);
  }

  private static void makeSteps() {
    size("0", 1);
    size("1", 1);
    size("9", 9);
    size("10", 9);
    size("999999", 9);
    size("-1", 1);
    size("1 - 1", 1);
  }

  private static void sums() {
    size("1 + 2 * 3", 7);
    size("(1 + 2) * 3", 9);
    size("9 - 3 - 2", 4);
    size("9 - (3 - 2)", 8);
    size("16 / 4 / 2", 2);
    size("16 / (4 / 2)", 8);
    size("7 / 2 * 2", 6);
    size("8 * 3 / 4", 6);
    size("-2 + 5", 3);
    size("- 2 * 3 + 8", 2);
    size("4 - -2", 6);
    size("- - 5", 5);
    size("-(2 - 6)", 4);
    size("5 + 7 / 0", 5);
    size("5 + 7 / (2 - 2)", 5);
    size("5 + -7 / 2", 2);
    size("5 + 7 / -2", 2);
    size("5 - -7 / -2", 2);
    size("min(3, 7)", 3);
    size("min(7, 3)", 3);
    size("max(3, 7)", 7);
    size("max(7, 3)", 7);
    size("min(4, max(2, 3) + 1) + 2", 6);
    size("max(-3, -2) + 4", 2);
    size("000007", 7);
  }

  private static void wrapping() {
    size("999999 * 999999 / (10000 * 10000)", 1);
    // 999999 * 999999 is -729379967 in 32 bits.
    size("999999 * 999999 / (10000 * -10000)", 7);
    size("65536 * 32768 / -65536 / 8192", 4);
    // 65536 * 32768 is -2147483648, and stays so when it is turned or divided by -1.
    size("-(65536 * 32768) / -65536 / 8192", 4);
    size("65536 * 32768 / -1 / -65536 / 8192", 4);
    size("(65536 * 32768 - 1) / (65536 * 4096) + 1", 8);
    size("(65536 * 32768 - 1 + 1) / (65536 * -4096) - 1", 7);
    size("min(65536 * 32768, 5) / (65536 * -4096)", 8);
  }

  private static void holds(String test, boolean holds) {
    Check.holds(test, holds);
  }

  private static void tests() {
    holds("1 < 2", true);
    holds("2 < 2", false);
    holds("-2 < -1", true);
    holds("3 > 2", true);
    holds("2 > 2", false);
    holds("2 = 2", true);
    holds("2 = 3", false);
    holds("2 <= 2", true);
    holds("3 <= 2", false);
    holds("2 >= 2", true);
    holds("2 >= 3", false);
    holds("1 + 1 = 2 * 1", true);
    holds("has a", true);
    holds("has c", false);
    holds("not has c", true);
    holds("not not has c", false);
    holds("same a a", true);
    holds("same a b", false);
    holds("same c c", false);
    holds("same b c", false);
    // and binds more than or, not more than and.
    holds("1 = 1 or 1 = 1 and 1 = 2", true);
    holds("[1 = 1 or 1 = 1] and 1 = 2", false);
    holds("1 = 2 and 1 = 1 or 1 = 1", true);
    holds("1 = 2 and [1 = 1 or 1 = 1]", false);
    holds("not 1 = 2 and 1 = 2", false);
    holds("not [1 = 2 and 1 = 2]", true);
    holds("not 1 = 1 or 1 = 1", true);
    holds("not [1 = 1 or 1 = 1]", false);
    holds("1 = 2 or 1 = 3 or 1 = 1", true);
    holds("1 = 1 and 2 = 2 and 3 = 4", false);
    holds("1 / 0 = 0", true);
    holds("size of a = 2 and size of b = 3 and size of c = 0", true);
    holds("age of a = 0 and age of c = 0", true);
  }

  private static void stateInSums() {
    HayBarn x = Check.taught("barn 10; loft 4; promote 1; hook a; hook b;"
        + "drop b when used = 4 and free = 6 and copies = 2 and bales = 3 and step = 0;"
        + "drop b when step = 1 and age of b = 0 and size of b = 4 and has b;"
        + "drop b when age of a = 1 and size of a = 3 and not same a b;");
    x.make(0, 3, 1);
    x.make(1, 3, 1);
    x.copyNow();
    x.copyNow();
    x.make(1, 1, 0);
    // a in the loft (3), one useless (3) and b (1) in the half.
    Check.due("used is 4", x.usedPlaces(), 4);
    Check.due("drop by the 1st step", x.work(1), 1);
    x.make(1, 4, 0);
    Check.due("drop by the 2nd step", x.work(1), 1);
    x.make(1, 1, 0);
    Check.due("drop by the 3rd step", x.work(1), 1);
    Check.due("the 1st step is passed over then", x.work(1), 0);
    HayBarn y = Check.taught("hook a; make a size step + 1 ropes 0;");
    y.work(1);
    Check.due("the 1st step reckons 0", y.sizeOf(0), 1);
    y.work(3);
    Check.due("the 4th step reckons 3", y.sizeOf(0), 4);
    // The size is reckoned ahead of the copying that it needs.
    HayBarn z = Check.taught("barn 8; hook a; make a size 6 - copies * 4 ropes 0; drop a;");
    z.work(3);
    Check.due("copies behind", z.copyings(), 1);
    Check.due("the size of ahead", z.sizeOf(0), 6);
    z.work(2);
    Check.due("the size of behind", z.sizeOf(0), 2);
  }

  private static void refusedMakeCopies() {
    HayBarn x = Check.taught("barn 8; hook a; hook b; make a size 5 ropes 0; make b size 4 ropes 0;");
    Check.due("work 2", x.work(2), 1);
    Check.due("refused", x.stepsRefused(), 1);
    Check.due("copyings", x.copyings(), 1);
    Check.due("b holds none", x.holdsBale(1), false);
    Check.due("a is copied", x.ageOf(0), 1);
    Check.due("the old bale of a is held during its own copying", x.work(1), 0);
    Check.due("copyings behind", x.copyings(), 2);
  }

  private static void untilCopying() {
    HayBarn x = Check.taught("barn 10; hook a; make a size 4 ropes 0;");
    Check.due("at once it is the 3rd step", x.stepsUntilCopying(), 3);
    x.work(1);
    Check.due("behind one step", x.stepsUntilCopying(), 2);
    x.work(1);
    Check.due("behind two", x.stepsUntilCopying(), 1);
    Check.due("nothing is changed", x.copyings(), 0);
    x.work(1);
    Check.due("there it is", x.copyings(), 1);
    Check.due("behind it", x.stepsUntilCopying(), 1);
    HayBarn y = Check.taught("barn 10; hook a; make a size 9 ropes 0 when step = 0 or step = 100;");
    Check.due("the 101st is too late", y.stepsUntilCopying(), -1);
    y.work(1);
    Check.due("the 100th is not", y.stepsUntilCopying(), 100);
    HayBarn z = Check.taught("barn 8; hook a; make a size 9 ropes 0;");
    Check.due("a refused step copies too", z.stepsUntilCopying(), 1);
    HayBarn w = Check.taught("hook a; drop a;");
    w.copyNow();
    Check.due("copyings there were do not count", w.stepsUntilCopying(), -1);
  }

  private static void usedLater() {
    HayBarn x = Check.taught("barn 10; hook a; make a size 4 ropes 0; drop a;");
    Check.due("usedAfter 1", x.usedAfter(1), 4);
    Check.due("usedAfter 2", x.usedAfter(2), 4);
    Check.due("usedAfter 3", x.usedAfter(3), 8);
    Check.due("usedAfter 5", x.usedAfter(5), 4);
    Check.due("usedAfter 100", x.usedAfter(100), 8);
    x.work(1);
    Check.due("usedIfCopied", x.usedIfCopied(), 4);
    x.work(1);
    Check.due("usedIfCopied without a", x.usedIfCopied(), 0);
    Check.due("usedPlaces", x.usedPlaces(), 4);
    HayBarn y = Check.taught("promote 0; hook a; hook b;");
    y.make(0, 9, 0);
    Check.due("usedIfCopied of a promoted one", y.usedIfCopied(), 0);
    y.make(1, 7, 0);
    Check.due("usedIfCopied of two promoted ones", y.usedIfCopied(), 0);
    Check.due("nothing is promoted by asking", y.balesPromoted() + y.usedInLoft(), 0);
  }

  private static void askingChangesNothing() {
    HayBarn x = Check.taught("barn 12; loft 6; promote 1; hook a; hook b; make a size 1 + step ropes 2;"
        + "tie a rope 0 to b; tie a rope 1 to a; follow b by a rope 1 when step > 4; drop a;");
    for (int i = 0; i < 35; i++) {
      long digest = x.digest();
      x.stepsUntilCopying();
      x.usedAfter(1 + i);
      x.usedIfCopied();
      x.meanSize();
      x.uselessBales();
      Check.due("digest behind asking " + i, x.digest(), digest);
      int used = x.usedAfter(3);
      int until = x.stepsUntilCopying();
      int copyings = x.copyings();
      x.work(3);
      Check.due("usedAfter 3, " + i, x.usedPlaces(), used);
      Check.due("copying in 3, " + i, x.copyings() > copyings, until >= 1 && until <= 3);
    }
  }
}
