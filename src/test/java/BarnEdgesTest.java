import java.util.function.LongSupplier;

/**
 * The boundary cases of bales, halves, loft, hooks and hands, promises 11 to 35 without copying: a
 * test for each sentence of the document that names one.
 */
public final class BarnEdgesTest {
  private static final int[] FAR = {-1, Integer.MIN_VALUE, Integer.MAX_VALUE};

  public static void main(String[] args) {
    baleSentences();
    countSentences();
    hookSentences();
    makeSentences();
    tieSentences();
    followSentences();
    dropSentences();
    exceptionSentences();
    Check.end("BarnEdgesTest");
  }

  private static void baleSentences() {
    Check.sentence("a size, 1 to 9", BarnEdgesTest::sizes);
    Check.sentence("some ropes, 0 to 3, numbered from 0", BarnEdgesTest::ropes);
    Check.sentence("ropes lead to none, at first", BarnEdgesTest::ropesAtFirst);
    Check.sentence("an age, 0 at first", BarnEdgesTest::ageAtFirst);
    Check.sentence("its place is the first of them", BarnEdgesTest::places);
    Check.sentence("a hook holds none, at first", BarnEdgesTest::hooksAtFirst);
    Check.sentence("a bale can be held by several", BarnEdgesTest::heldBySeveral);
    Check.sentence("all others are useless", BarnEdgesTest::reachedAndUseless);
    Check.sentence("a gap is as long as it can be", BarnEdgesTest::gapsJoin);
  }

  private static void countSentences() {
    Check.sentence("11. the working half: 0, at first, 1, and 0 again", BarnEdgesTest::workingHalf);
    Check.sentence("12. how many places of it are not empty", BarnEdgesTest::usedPlaces);
    Check.sentence("13. how many places of the loft are not empty", BarnEdgesTest::usedInLoft);
    Check.sentence("14. the longest gap", BarnEdgesTest::longestGap);
    Check.sentence("14. 0 without one", BarnEdgesTest::noGap);
    Check.sentence("15. 16. how many bales there are, and in the loft", BarnEdgesTest::baleCounts);
    Check.sentence("as many bales as there are places", BarnEdgesTest::fullOfBales);
    Check.sentence("17. how many of them are useless", BarnEdgesTest::uselessBales);
    Check.sentence("18. how many copyings there were", BarnEdgesTest::copyings);
    Check.sentence("19. how many bales were promoted in all", BarnEdgesTest::promotedInAll);
    Check.sentence("20. gone by copying and sweeping in all", BarnEdgesTest::goneInAll);
  }

  private static void hookSentences() {
    Check.sentence("21. holdsBale", BarnEdgesTest::holdsBale);
    Check.sentence("21. IndexOutOfBoundsException",
        () -> noHook((x, hook) -> x.holdsBale(hook) ? 1 : 0));
    Check.sentence("22. IndexOutOfBoundsException", () -> noHook(HayBarn::placeOf));
    Check.sentence("22. IllegalStateException if it holds none", () -> noBale(HayBarn::placeOf));
    Check.sentence("23. IndexOutOfBoundsException", () -> noHook(HayBarn::sizeOf));
    Check.sentence("23. IllegalStateException if it holds none", () -> noBale(HayBarn::sizeOf));
    Check.sentence("24. IndexOutOfBoundsException", () -> noHook(HayBarn::ropesOf));
    Check.sentence("24. IllegalStateException if it holds none", () -> noBale(HayBarn::ropesOf));
    Check.sentence("25. IndexOutOfBoundsException", () -> noHook(HayBarn::ageOf));
    Check.sentence("25. IllegalStateException if it holds none", () -> noBale(HayBarn::ageOf));
    Check.sentence("26. IndexOutOfBoundsException",
        () -> noHook((x, hook) -> x.isInLoft(hook) ? 1 : 0));
    Check.sentence("26. IllegalStateException if it holds none",
        () -> noBale((x, hook) -> x.isInLoft(hook) ? 1 : 0));
    Check.sentence("27. IndexOutOfBoundsException",
        () -> noHook((x, hook) -> x.ropeLeads(hook, 0) ? 1 : 0));
    Check.sentence("27. IllegalStateException if it holds none",
        () -> noBale((x, hook) -> x.ropeLeads(hook, 0) ? 1 : 0));
    Check.sentence("27. IllegalStateException if it has no such rope", BarnEdgesTest::noRope);
    Check.sentence("27. whether this rope leads to a bale", BarnEdgesTest::ropeLeads);
    Check.sentence("28. whether both hold the same bale", BarnEdgesTest::holdSame);
    Check.sentence("28. false if one holds none", BarnEdgesTest::holdSameNone);
    Check.sentence("28. IndexOutOfBoundsException", BarnEdgesTest::holdSameNoHook);
    Check.sentence("29. by how few ropes", BarnEdgesTest::fewRopes);
    Check.sentence("29. 0 if they are the same", BarnEdgesTest::noRopesBetween);
    Check.sentence("29. -1 if it is not", BarnEdgesTest::notReached);
    Check.sentence("29. IndexOutOfBoundsException", BarnEdgesTest::betweenNoHook);
    Check.sentence("29. IllegalStateException if one of them holds none",
        BarnEdgesTest::betweenNone);
  }

  private static void makeSentences() {
    Check.sentence("30. returns its place", BarnEdgesTest::makeReturns);
    Check.sentence("30. which the hook holds then", BarnEdgesTest::makeHolds);
    Check.sentence("30. IndexOutOfBoundsException", () -> noHook((x, hook) -> x.make(hook, 1, 1)));
    Check.sentence("30. IllegalArgumentException if size is not 1 to 9", BarnEdgesTest::makeSizes);
    Check.sentence("30. IllegalArgumentException if ropes is not 0 to 3", BarnEdgesTest::makeRopes);
    Check.sentence("30. IllegalStateException if it is refused", BarnEdgesTest::makeRefused);
    Check.sentence("if there are as many empty places, no copying", BarnEdgesTest::makeFits);
    Check.sentence("if there are not as many, a copying first", BarnEdgesTest::makeCopies);
    Check.sentence("the old bale is held in the copying ahead", BarnEdgesTest::makeHoldsOld);
    Check.sentence("a bale refused by hand is so behind a copying",
        BarnEdgesTest::makeRefusedCopies);
  }

  private static void tieSentences() {
    Check.sentence("31. how many ropes of the first bale lead to bales then",
        BarnEdgesTest::tieReturns);
    Check.sentence("31. to the bale of the same hook", BarnEdgesTest::tieToItself);
    Check.sentence("31. IndexOutOfBoundsException, first hook",
        () -> noHook((x, hook) -> x.tie(hook, 0, 0)));
    Check.sentence("31. IndexOutOfBoundsException, second hook",
        () -> noHook((x, hook) -> x.tie(0, 0, hook)));
    Check.sentence("31. refused, if the first one holds none",
        () -> noBale((x, hook) -> x.tie(hook, 0, 0)));
    Check.sentence("31. refused, if the second one holds none",
        () -> noBale((x, hook) -> x.tie(0, 0, hook)));
    Check.sentence("31. refused, if the bale has no such rope", BarnEdgesTest::tieNoRope);
  }

  private static void followSentences() {
    Check.sentence("32. returns the place of the bale that it holds then",
        BarnEdgesTest::followReturns);
    Check.sentence("32. or of itself", BarnEdgesTest::followItself);
    Check.sentence("32. a hook that holds none can follow", BarnEdgesTest::followByNone);
    Check.sentence("32. IndexOutOfBoundsException, first hook",
        () -> noHook((x, hook) -> x.follow(hook, 0, 0)));
    Check.sentence("32. IndexOutOfBoundsException, second hook",
        () -> noHook((x, hook) -> x.follow(0, hook, 0)));
    Check.sentence("32. refused, if that holds none",
        () -> noBale((x, hook) -> x.follow(0, hook, 0)));
    Check.sentence("32. refused, if it has no such rope", BarnEdgesTest::followNoRope);
    Check.sentence("32. refused, if it leads to none", BarnEdgesTest::followToNone);
  }

  private static void dropSentences() {
    Check.sentence("33. returns how many bales are useless then", BarnEdgesTest::dropReturns);
    Check.sentence("33. IndexOutOfBoundsException", () -> noHook(HayBarn::drop));
    Check.sentence("33. IllegalStateException if it holds none", () -> noBale(HayBarn::drop));
    Check.sentence("33. the others hold it still", BarnEdgesTest::dropOne);
  }

  private static void exceptionSentences() {
    Check.sentence("the one that is named first is thrown", BarnEdgesTest::firstException);
    Check.sentence("a method that throws changes nothing", BarnEdgesTest::throwsChangeNothing);
  }

  private interface OfHook {
    int ask(HayBarn barn, int hook);
  }

  /** Hooks a and b; a holds a bale with a rope that leads to itself. */
  private static HayBarn two(String settings) {
    HayBarn x = Check.taught(settings + "hook a;hook b;drop b;");
    x.make(0, 2, 1);
    x.tie(0, 0, 0);
    return x;
  }

  private static void noHook(OfHook call) {
    HayBarn x = two("");
    for (int hook : new int[] {-1, 2, 3, 5, 6, 7, 255, 256, Integer.MIN_VALUE, Integer.MAX_VALUE}) {
      Check.refused(x, "hook " + hook, IndexOutOfBoundsException.class, () -> call.ask(x, hook));
    }
    HayBarn none = Check.taught("");
    Check.noHook("hook 0 of none", () -> call.ask(none, 0));
    HayBarn six = Check.taught("hook a;hook b;hook c;hook d;hook e;hook f;");
    six.make(0, 1, 1);
    six.tie(0, 0, 0);
    six.make(5, 1, 1);
    six.tie(5, 0, 0);
    call.ask(six, 5);
    Check.noHook("hook 6 of 6", () -> call.ask(six, 6));
  }

  private static void noBale(OfHook call) {
    HayBarn x = two("");
    Check.refused(x, "a hook that never held one", IllegalStateException.class,
        () -> call.ask(x, 1));
    x.make(1, 1, 1);
    x.drop(1);
    Check.refused(x, "a hook that holds none", IllegalStateException.class, () -> call.ask(x, 1));
    call.ask(x, 0);
  }

  // ---- bales

  private static void sizes() {
    for (int size = 1; size <= 9; size++) {
      HayBarn x = Check.taught("hook a;");
      x.make(0, size, 0);
      Check.due("sizeOf", x.sizeOf(0), size);
      Check.due("usedPlaces", x.usedPlaces(), size);
    }
  }

  private static void ropes() {
    for (int ropes = 0; ropes <= 3; ropes++) {
      HayBarn x = Check.taught("hook a;");
      x.make(0, 1, ropes);
      Check.due("ropesOf", x.ropesOf(0), ropes);
      for (int rope = 0; rope < ropes; rope++) {
        Check.due("tie", x.tie(0, rope, 0), rope + 1);
      }
      int none = ropes;
      Check.noState("tie behind the last one", () -> x.tie(0, none, 0));
    }
  }

  private static void ropesAtFirst() {
    HayBarn x = Check.taught("hook a;");
    for (int i = 0; i < 3; i++) {
      // Bales of ahead, with ropes that lead to bales, are gone when the next one is made.
      x.make(0, 1, 3);
      for (int rope = 0; rope < 3; rope++) {
        int none = rope;
        Check.due("ropeLeads " + rope, x.ropeLeads(0, rope), false);
        Check.noState("follow " + rope, () -> x.follow(0, 0, none));
      }
      x.tie(0, 0, 0);
      x.tie(0, 1, 0);
      x.tie(0, 2, 0);
      x.drop(0);
      x.copyNow();
    }
  }

  private static void ageAtFirst() {
    HayBarn x = Check.taught("hook a;");
    for (int i = 0; i < 3; i++) {
      x.make(0, 1, 0);
      Check.due("ageOf", x.ageOf(0), 0);
      x.copyNow();
      Check.due("ageOf behind a copying", x.ageOf(0), 1);
      x.drop(0);
      x.copyNow();
    }
  }

  private static void places() {
    HayBarn x = Check.taught("barn 64;hook a;hook b;");
    int place = 0;
    for (int size = 9; size >= 1; size--) {
      Check.due("make", x.make(0, size, 1), place);
      Check.due("placeOf", x.placeOf(0), place);
      place += size;
      Check.due("usedPlaces", x.usedPlaces(), place);
    }
  }

  private static void hooksAtFirst() {
    HayBarn x = Check.taught("hook a;hook b;hook c;hook d;hook e;hook f;");
    for (int hook = 0; hook < 6; hook++) {
      Check.due("holdsBale " + hook, x.holdsBale(hook), false);
    }
  }

  private static void heldBySeveral() {
    HayBarn x = Check.taught("hook a;hook b;hook c;hook d;hook e;hook f;");
    x.make(0, 3, 1);
    x.tie(0, 0, 0);
    for (int hook = 1; hook < 6; hook++) {
      Check.due("follow " + hook, x.follow(hook, hook - 1, 0), 0);
      Check.due("holdSame " + hook, x.holdSame(0, hook), true);
    }
    Check.due("bales", x.bales(), 1);
    Check.due("usedPlaces", x.usedPlaces(), 3);
  }

  private static void reachedAndUseless() {
    HayBarn x = Check.taught("barn 30;hook a;hook b;hook c;");
    x.make(0, 1, 1);
    x.make(1, 1, 1);
    x.make(2, 1, 1);
    x.tie(0, 0, 1);
    x.tie(1, 0, 2);
    x.tie(2, 0, 0);
    x.drop(1);
    x.drop(2);
    Check.due("a ring is reached by a hook", x.uselessBales(), 0);
    Check.due("a ring is not reached by itself", x.drop(0), 3);
  }

  private static void gapsJoin() {
    HayBarn x = Check.taught("barn 30;loft 9;promote 0;hook a;hook b;hook c;hook d;");
    for (int hook = 0; hook < 4; hook++) {
      x.make(hook, 2, 0);
    }
    x.copyNow();
    Check.due("behind all", x.longestGap(), 1);
    x.drop(1);
    x.sweepLoft();
    Check.due("of b", x.longestGap(), 2);
    x.drop(2);
    x.sweepLoft();
    Check.due("of b and c", x.longestGap(), 4);
    x.drop(0);
    x.sweepLoft();
    Check.due("of a, b, c", x.longestGap(), 6);
    x.drop(3);
    x.sweepLoft();
    Check.due("of all", x.longestGap(), 9);
  }

  // ---- counts

  private static void workingHalf() {
    HayBarn x = Check.taught("hook a;");
    Check.due("at first", x.workingHalf(), 0);
    for (int copying = 1; copying <= 5; copying++) {
      x.copyNow();
      Check.due("behind " + copying, x.workingHalf(), copying % 2);
    }
  }

  private static void usedPlaces() {
    for (int places : new int[] {8, 9, 16, 63, 64}) {
      HayBarn x = Check.taught("barn " + places + ";hook a;");
      Check.due("at first", x.usedPlaces(), 0);
      for (int i = 1; i <= places; i++) {
        x.make(0, 1, 0);
        Check.due("useless ones count too", x.usedPlaces(), i);
      }
      Check.due("no copying", x.copyings(), 0);
      x.make(0, 1, 0);
      Check.due("behind a copying", x.usedPlaces(), 2);
      x.drop(0);
      x.copyNow();
      Check.due("behind a copying of none", x.usedPlaces(), 0);
    }
  }

  private static void usedInLoft() {
    HayBarn x = Check.taught("barn 30;loft 11;promote 0;hook a;hook b;");
    Check.due("at first", x.usedInLoft(), 0);
    x.make(0, 9, 0);
    x.make(1, 2, 0);
    Check.due("ahead of a copying", x.usedInLoft(), 0);
    x.copyNow();
    Check.due("full", x.usedInLoft(), 11);
    x.drop(0);
    Check.due("useless ones count too", x.usedInLoft(), 11);
    x.sweepLoft();
    Check.due("without a", x.usedInLoft(), 2);
    x.drop(1);
    x.sweepLoft();
    Check.due("empty", x.usedInLoft(), 0);
  }

  private static void longestGap() {
    Check.due("all of a loft", Check.taught("loft 1;").longestGap(), 1);
    HayBarn x = Check.taught("barn 30;loft 12;promote 0;hook a;hook b;hook c;hook d;");
    x.make(0, 3, 0);
    x.make(1, 2, 0);
    x.make(2, 3, 0);
    x.make(3, 2, 0);
    x.copyNow();
    Check.due("at the end", x.longestGap(), 2);
    x.drop(2);
    x.sweepLoft();
    Check.due("in the middle", x.longestGap(), 3);
    x.drop(0);
    x.sweepLoft();
    Check.due("as long at the beginning", x.longestGap(), 3);
    x.make(2, 1, 0);
    x.copyNow();
    Check.due("the other one then", x.longestGap(), 3);
    x.make(0, 3, 0);
    x.copyNow();
    Check.due("the rest of the first one, the last one", x.longestGap(), 2);
  }

  private static void noGap() {
    Check.due("a loft without places", Check.taught("loft 0;").longestGap(), 0);
    HayBarn x = Check.taught("loft 3;promote 0;hook a;hook b;");
    x.make(0, 1, 0);
    x.make(1, 2, 0);
    x.copyNow();
    Check.due("a full loft", x.longestGap(), 0);
  }

  private static void baleCounts() {
    HayBarn x = Check.taught("barn 30;loft 5;promote 0;hook a;hook b;");
    Check.due("bales at first", x.bales(), 0);
    x.make(0, 3, 0);
    x.make(0, 2, 0);
    x.make(1, 3, 0);
    Check.due("bales with a useless one", x.bales(), 3);
    Check.due("none in the loft", x.balesInLoft(), 0);
    x.copyNow();
    Check.due("bales without it", x.bales(), 2);
    Check.due("two in the loft", x.balesInLoft(), 2);
    x.make(0, 1, 0);
    Check.due("bales in both", x.bales(), 3);
    Check.due("two in the loft, one useless", x.balesInLoft(), 2);
    x.sweepLoft();
    Check.due("bales behind a sweep", x.bales(), 2);
    Check.due("one in the loft", x.balesInLoft(), 1);
  }

  /** 64 in the loft, 64 in the half, a chain by ropes from the latest one to the first one. */
  private static void fullOfBales() {
    HayBarn x = Check.taught("barn 64;loft 64;promote 0;hook a;hook b;");
    for (int i = 0; i < 128; i++) {
      x.make(i % 2, 1, 3);
      if (i > 0) {
        x.tie(i % 2, 2, 1 - i % 2);
      }
      if (i == 63) {
        x.copyNow();
      }
    }
    Check.due("bales", x.bales(), 128);
    Check.due("balesInLoft", x.balesInLoft(), 64);
    Check.due("usedPlaces", x.usedPlaces(), 64);
    Check.due("usedInLoft", x.usedInLoft(), 64);
    Check.due("longestGap", x.longestGap(), 0);
    Check.due("uselessBales", x.uselessBales(), 0);
    Check.due("balesPromoted", x.balesPromoted(), 64);
    Check.due("meanSize", x.meanSize(), 1.0);
    Check.noState("one more", () -> x.make(0, 1, 0));
    Check.due("all are there still", x.bales(), 128);
    for (int i = 0; i < 126; i++) {
      x.follow(0, 0, 2);
    }
    Check.due("ropesBetween", x.ropesBetween(1, 0), 127);
    Check.due("the first one is in the loft", x.isInLoft(0), true);
    Check.due("at its last place, as it was taken over last", x.placeOf(0), 63);
    Check.due("127 are useless", x.drop(1), 127);
    Check.due("the loft's keep none of the half", x.copyNow(), 64);
    Check.due("sweepLoft", x.sweepLoft(), 63);
    Check.due("drop of the first one", x.drop(0), 1);
    Check.due("sweep of the first one", x.sweepLoft(), 1);
    Check.due("longestGap of none", x.longestGap(), 64);
  }

  private static void uselessBales() {
    HayBarn x = Check.taught("barn 30;loft 2;promote 0;hook a;hook b;");
    Check.due("at first", x.uselessBales(), 0);
    x.make(0, 2, 1);
    Check.due("a held one is not", x.uselessBales(), 0);
    x.copyNow();
    x.make(1, 3, 1);
    x.tie(1, 0, 0);
    x.drop(0);
    Check.due("one of the loft, reached from the half, is not", x.uselessBales(), 0);
    x.drop(1);
    Check.due("both are, as the useless one does not reach", x.uselessBales(), 2);
    x.copyNow();
    Check.due("the one of the loft is still", x.uselessBales(), 1);
    x.sweepLoft();
    Check.due("none is there", x.uselessBales(), 0);
  }

  private static void copyings() {
    HayBarn x = Check.taught("barn 8;hook a;make a size 8 ropes 0;");
    Check.due("at first", x.copyings(), 0);
    x.copyNow();
    Check.due("by hand", x.copyings(), 1);
    x.make(0, 8, 0);
    Check.due("none is needed", x.copyings(), 1);
    x.drop(0);
    x.make(0, 1, 0);
    Check.due("by a bale made by hand", x.copyings(), 2);
    x.work(1);
    Check.due("by a refused step", x.copyings(), 3);
    x.drop(0);
    x.work(1);
    Check.due("by a step", x.copyings(), 4);
    x.sweepLoft();
    x.usedIfCopied();
    x.stepsUntilCopying();
    x.usedAfter(100);
    Check.due("none by these", x.copyings(), 4);
  }

  private static void promotedInAll() {
    HayBarn x = Check.taught("barn 9;loft 2;promote 0;hook a;");
    for (int i = 1; i <= 3; i++) {
      x.make(0, 2, 0);
      x.copyNow();
      Check.due("balesPromoted", x.balesPromoted(), i);
      x.copyNow();
      Check.due("each one once", x.balesPromoted(), i);
      x.drop(0);
      x.sweepLoft();
      Check.due("swept ones count still", x.balesPromoted(), i);
    }
  }

  private static void goneInAll() {
    HayBarn x = Check.taught("barn 9;loft 2;promote 0;hook a;");
    x.make(0, 2, 0);
    x.copyNow();
    x.drop(0);
    Check.due("none is gone as it is useless", x.balesGone(), 0);
    x.make(0, 1, 0);
    x.drop(0);
    Check.due("copyNow", x.copyNow(), 1);
    Check.due("by copying", x.balesGone(), 1);
    Check.due("sweepLoft", x.sweepLoft(), 1);
    Check.due("by sweeping", x.balesGone(), 2);
    x.make(0, 5, 0);
    x.make(0, 4, 0);
    x.make(0, 5, 0);
    Check.due("by a copying that a bale needs", x.balesGone(), 3);
  }

  // ---- hooks

  private static void holdsBale() {
    HayBarn x = Check.taught("hook a;hook b;");
    x.make(1, 1, 1);
    Check.due("a", x.holdsBale(0), false);
    Check.due("b", x.holdsBale(1), true);
    x.copyNow();
    Check.due("b behind a copying", x.holdsBale(1), true);
    x.drop(1);
    Check.due("b behind drop", x.holdsBale(1), false);
  }

  /** Calls with a rope that the bale of hook 0, with 0 to 3 of them, has not. */
  private static void noRope(int ropes, OfHook call) {
    HayBarn x = Check.taught("hook a;");
    x.make(0, 1, 3);
    x.tie(0, 2, 0);
    x.tie(0, 1, 0);
    x.tie(0, 0, 0);
    x.drop(0);
    x.copyNow();
    x.make(0, 1, ropes);
    for (int rope = 0; rope < ropes; rope++) {
      x.tie(0, rope, 0);
    }
    for (int rope = ropes; rope < 5; rope++) {
      int none = rope;
      Check.refused(x, "rope " + rope, IllegalStateException.class, () -> call.ask(x, none));
    }
    for (int rope : FAR) {
      Check.refused(x, "rope " + rope, IllegalStateException.class, () -> call.ask(x, rope));
    }
    if (ropes > 0) {
      call.ask(x, ropes - 1);
    }
  }

  private static void noRope() {
    for (int ropes = 0; ropes <= 3; ropes++) {
      noRope(ropes, (x, rope) -> x.ropeLeads(0, rope) ? 1 : 0);
    }
  }

  private static void ropeLeads() {
    HayBarn x = Check.taught("hook a;hook b;untie a rope 1;");
    x.make(0, 1, 3);
    x.make(1, 1, 0);
    x.tie(0, 1, 1);
    Check.due("0", x.ropeLeads(0, 0), false);
    Check.due("1", x.ropeLeads(0, 1), true);
    Check.due("2", x.ropeLeads(0, 2), false);
    x.drop(1);
    x.copyNow();
    Check.due("1 behind a copying", x.ropeLeads(0, 1), true);
    x.work(1);
    Check.due("1 untied", x.ropeLeads(0, 1), false);
  }

  private static void holdSame() {
    HayBarn x = Check.taught("hook a;hook b;hook c;");
    x.make(0, 2, 1);
    x.make(1, 2, 1);
    Check.due("a a", x.holdSame(0, 0), true);
    Check.due("a b, alike", x.holdSame(0, 1), false);
    x.tie(0, 0, 0);
    x.follow(2, 0, 0);
    Check.due("a c", x.holdSame(0, 2), true);
    Check.due("c a", x.holdSame(2, 0), true);
  }

  private static void holdSameNone() {
    HayBarn x = Check.taught("hook a;hook b;hook c;");
    x.make(0, 1, 1);
    Check.due("one and none", x.holdSame(0, 1), false);
    Check.due("none and one", x.holdSame(1, 0), false);
    Check.due("none and none", x.holdSame(1, 2), false);
    Check.due("none and itself", x.holdSame(1, 1), false);
  }

  private static void holdSameNoHook() {
    noHook((x, hook) -> x.holdSame(hook, 0) ? 1 : 0);
    noHook((x, hook) -> x.holdSame(0, hook) ? 1 : 0);
    noHook((x, hook) -> x.holdSame(hook, hook) ? 1 : 0);
  }

  private static void fewRopes() {
    HayBarn x = Check.taught("hook a;hook b;hook c;hook d;");
    x.make(0, 1, 3);
    x.make(1, 1, 3);
    x.make(2, 1, 3);
    x.make(3, 1, 3);
    x.tie(0, 0, 1);
    x.tie(1, 0, 2);
    x.tie(2, 0, 3);
    Check.due("one", x.ropesBetween(0, 1), 1);
    Check.due("three", x.ropesBetween(0, 3), 3);
    x.tie(0, 1, 2);
    Check.due("the short way by the second rope", x.ropesBetween(0, 3), 2);
    x.tie(0, 2, 3);
    Check.due("the shortest way by the third rope", x.ropesBetween(0, 3), 1);
    x.tie(3, 0, 0);
    Check.due("the other way", x.ropesBetween(3, 2), 2);
    x.drop(1);
    x.tie(0, 1, 0);
    x.tie(0, 2, 0);
    Check.due("by bales that no hook holds", x.ropesBetween(0, 3), 3);
  }

  private static void noRopesBetween() {
    HayBarn x = Check.taught("hook a;hook b;");
    x.make(0, 1, 0);
    Check.due("itself, without ropes", x.ropesBetween(0, 0), 0);
    x.make(0, 1, 1);
    x.tie(0, 0, 0);
    Check.due("itself, with a rope to itself", x.ropesBetween(0, 0), 0);
    x.follow(1, 0, 0);
    Check.due("held by both", x.ropesBetween(0, 1), 0);
  }

  private static void notReached() {
    HayBarn x = Check.taught("hook a;hook b;");
    x.make(0, 1, 1);
    x.make(1, 1, 0);
    Check.due("without a way", x.ropesBetween(0, 1), -1);
    x.tie(0, 0, 1);
    Check.due("not against the rope", x.ropesBetween(1, 0), -1);
    x.tie(0, 0, 0);
    Check.due("by a ring elsewhere", x.ropesBetween(0, 1), -1);
  }

  private static void betweenNoHook() {
    noHook((x, hook) -> x.ropesBetween(hook, 0));
    noHook((x, hook) -> x.ropesBetween(0, hook));
    noHook((x, hook) -> x.ropesBetween(hook, hook));
  }

  private static void betweenNone() {
    noBale((x, hook) -> x.ropesBetween(hook, 0));
    noBale((x, hook) -> x.ropesBetween(0, hook));
    noBale((x, hook) -> x.ropesBetween(hook, hook));
  }

  // ---- by hand

  private static void makeReturns() {
    HayBarn x = Check.taught("barn 8;hook a;");
    Check.due("the first one", x.make(0, 1, 0), 0);
    Check.due("the next one", x.make(0, 6, 0), 1);
    Check.due("at the last place", x.make(0, 1, 0), 7);
    Check.due("behind a copying", x.make(0, 7, 0), 1);
  }

  private static void makeHolds() {
    HayBarn x = Check.taught("hook a;hook b;");
    x.make(0, 2, 1);
    x.make(0, 3, 2);
    Check.due("sizeOf", x.sizeOf(0), 3);
    Check.due("ropesOf", x.ropesOf(0), 2);
    Check.due("the old one is useless", x.uselessBales(), 1);
    Check.due("b holds none", x.holdsBale(1), false);
  }

  private static void makeSizes() {
    HayBarn x = two("");
    for (int size : new int[] {0, 10, -1, -9, 11, 257, Integer.MIN_VALUE, Integer.MAX_VALUE}) {
      for (int ropes : new int[] {0, 3}) {
        Check.refused(x, "size " + size, IllegalArgumentException.class,
            () -> x.make(0, size, ropes));
      }
    }
    Check.due("size 1", x.make(0, 1, 0), 2);
    Check.due("size 9", x.make(0, 9, 0), 3);
  }

  private static void makeRopes() {
    HayBarn x = two("");
    for (int ropes : new int[] {-1, 4, 5, 256, Integer.MIN_VALUE, Integer.MAX_VALUE}) {
      for (int size : new int[] {1, 9}) {
        Check.refused(x, "ropes " + ropes, IllegalArgumentException.class,
            () -> x.make(0, size, ropes));
      }
    }
    Check.due("ropes 0", x.make(0, 1, 0), 2);
    Check.due("ropes 3", x.make(0, 1, 3), 3);
  }

  private static void makeRefused() {
    HayBarn x = Check.taught("barn 8;hook a;hook b;");
    Check.noState("size 9 of 8", () -> x.make(0, 9, 0));
    Check.due("size 8 of 8", x.make(0, 8, 0), 0);
    Check.noState("size 1 of none", () -> x.make(1, 1, 0));
    Check.noState("for the hook itself", () -> x.make(0, 1, 0));
    Check.due("a holds the old one", x.sizeOf(0), 8);
    Check.due("b holds none", x.holdsBale(1), false);
    Check.due("bales", x.bales(), 1);
    Check.due("no step was refused", x.stepsRefused(), 0);
  }

  private static void makeFits() {
    for (int size = 1; size <= 8; size++) {
      HayBarn x = Check.taught("barn 8;hook a;");
      for (int used = 8 - size; used > 0; used--) {
        x.make(0, 1, 0);
      }
      Check.due("just as many", x.make(0, size, 0), 8 - size);
      Check.due("copyings", x.copyings(), 0);
      Check.due("usedPlaces", x.usedPlaces(), 8);
    }
  }

  private static void makeCopies() {
    for (int size = 1; size <= 7; size++) {
      HayBarn x = Check.taught("barn 8;hook a;hook b;");
      for (int used = 9 - size; used > 0; used--) {
        x.make(0, 1, 0);
      }
      Check.due("one too few", x.make(1, size, 0), 1);
      Check.due("copyings", x.copyings(), 1);
      Check.due("workingHalf", x.workingHalf(), 1);
      Check.due("usedPlaces", x.usedPlaces(), 1 + size);
      Check.due("the new one has age 0", x.ageOf(1), 0);
      Check.due("the old one has age 1", x.ageOf(0), 1);
    }
  }

  private static void makeHoldsOld() {
    HayBarn x = Check.taught("barn 8;hook a;");
    x.make(0, 4, 0);
    x.make(0, 4, 0);
    Check.due("behind the old one", x.make(0, 4, 0), 4);
    Check.due("the old one is useless now", x.uselessBales(), 1);
    Check.due("one is gone", x.balesGone(), 1);
    Check.noState("the old one is held still", () -> x.make(0, 5, 0));
    Check.due("the old one", x.placeOf(0), 0);
  }

  private static void makeRefusedCopies() {
    HayBarn x = Check.taught("barn 8;loft 1;promote 1;hook a;hook b;");
    x.make(0, 1, 0);
    x.make(0, 6, 1);
    x.make(1, 1, 0);
    HayBarn twin = Check.taught("barn 8;loft 1;promote 1;hook a;hook b;");
    twin.make(0, 1, 0);
    twin.make(0, 6, 1);
    twin.make(1, 1, 0);
    for (int i = 0; i < 3; i++) {
      Check.noState("make " + i, () -> x.make(1, 9, 0));
      twin.copyNow();
      Check.due("as behind a copying, " + i, x.digest(), twin.digest());
    }
    Check.due("the last one makes place", x.usedPlaces(), 6);
    Check.due("it is made then", x.make(1, 2, 0), 6);
  }

  private static void tieReturns() {
    HayBarn x = Check.taught("hook a;hook b;");
    x.make(0, 1, 3);
    x.make(1, 1, 1);
    Check.due("the last rope", x.tie(0, 2, 1), 1);
    Check.due("again", x.tie(0, 2, 1), 1);
    Check.due("to another one", x.tie(0, 2, 0), 1);
    Check.due("the first rope", x.tie(0, 0, 1), 2);
    Check.due("all ropes", x.tie(0, 1, 1), 3);
    Check.due("of the other one", x.tie(1, 0, 0), 1);
  }

  private static void tieToItself() {
    HayBarn x = Check.taught("hook a;hook b;");
    x.make(0, 1, 1);
    Check.due("tie", x.tie(0, 0, 0), 1);
    Check.due("follow", x.follow(1, 0, 0), 0);
    Check.due("holdSame", x.holdSame(0, 1), true);
    x.drop(0);
    Check.due("useless, though it leads to itself", x.drop(1), 1);
  }

  private static void tieNoRope() {
    for (int ropes = 0; ropes <= 3; ropes++) {
      noRope(ropes, (x, rope) -> x.tie(0, rope, 0));
    }
  }

  private static void followReturns() {
    HayBarn x = Check.taught("barn 20;loft 5;promote 0;hook a;hook b;hook c;");
    x.make(1, 2, 1);
    x.make(0, 3, 1);
    x.copyNow();
    Check.due("a lies in the loft at 0", x.placeOf(0), 0);
    Check.due("b lies in the loft at 3", x.placeOf(1), 3);
    x.make(2, 4, 1);
    x.tie(2, 0, 1);
    x.tie(0, 0, 2);
    Check.due("into the loft", x.follow(1, 2, 0), 3);
    Check.due("into the half", x.follow(1, 0, 0), 0);
    Check.due("isInLoft", x.isInLoft(1), false);
  }

  private static void followItself() {
    HayBarn x = Check.taught("hook a;hook b;");
    x.make(0, 2, 1);
    x.make(1, 3, 1);
    x.tie(0, 0, 1);
    x.tie(1, 0, 0);
    Check.due("follow", x.follow(0, 0, 0), 2);
    Check.due("sizeOf", x.sizeOf(0), 3);
    Check.due("follow back", x.follow(0, 0, 0), 0);
    Check.due("sizeOf behind", x.sizeOf(0), 2);
  }

  private static void followByNone() {
    HayBarn x = two("");
    Check.due("follow", x.follow(1, 0, 0), 0);
    Check.due("holdSame", x.holdSame(0, 1), true);
  }

  private static void followNoRope() {
    for (int ropes = 0; ropes <= 3; ropes++) {
      noRope(ropes, (x, rope) -> x.follow(0, 0, rope));
    }
  }

  private static void followToNone() {
    HayBarn x = Check.taught("hook a;hook b;untie a rope 0;");
    x.make(0, 1, 1);
    x.make(1, 2, 1);
    Check.refused(x, "follow", IllegalStateException.class, () -> x.follow(1, 0, 0));
    Check.due("b holds the old one", x.sizeOf(1), 2);
    x.tie(0, 0, 1);
    x.work(1);
    Check.refused(x, "follow untied", IllegalStateException.class, () -> x.follow(1, 0, 0));
  }

  private static void dropReturns() {
    HayBarn x = Check.taught("barn 20;loft 1;promote 0;hook a;hook b;hook c;");
    x.make(0, 1, 1);
    x.copyNow();
    x.make(1, 1, 1);
    x.make(2, 1, 0);
    x.tie(0, 0, 1);
    Check.due("reached still", x.drop(1), 0);
    Check.due("one of the half", x.drop(2), 1);
    Check.due("and the others", x.drop(0), 3);
  }

  private static void dropOne() {
    HayBarn x = two("");
    x.follow(1, 0, 0);
    Check.due("drop", x.drop(0), 0);
    Check.due("a", x.holdsBale(0), false);
    Check.due("b", x.sizeOf(1), 2);
  }

  // ---- exceptions

  private static void firstException() {
    HayBarn x = Check.taught("barn 8;hook a;hook b;drop b;");
    HayBarn none = Check.taught("hook a;");
    Check.noHook("no hook, size and ropes", () -> x.make(2, 0, 4));
    Check.noHook("no hook, no places", () -> x.make(2, 9, 0));
    Check.noArgument("no size, no places", () -> x.make(0, 10, 0));
    Check.noArgument("no ropes, no places", () -> x.make(0, 9, 4));
    Check.due("no copying by them", x.copyings(), 0);
    Check.noHook("a none, no second hook", () -> x.ropesBetween(0, 2));
    Check.noHook("no first hook, b none", () -> x.ropesBetween(-1, 1));
    Check.noHook("no hook, no rope", () -> x.ropeLeads(2, 9) ? 1 : 0);
    Check.noHook("tie of none, no second hook", () -> x.tie(0, 9, 2));
    Check.noHook("tie, no first hook, to none", () -> x.tie(2, 9, 0));
    Check.noHook("follow none, no first hook", () -> x.follow(2, 0, 9));
    Check.noHook("follow, no second hook", () -> x.follow(0, 2, 9));
    Check.noHook("none and no hook the same", () -> x.holdSame(0, 2) ? 1 : 0);
    Check.noArgument("work of 0 steps without any", () -> none.work(0));
    Check.noArgument("work of 101 steps without any", () -> none.work(101));
    Check.noArgument("usedAfter 0 steps without any", () -> none.usedAfter(0));
    Check.noArgument("usedAfter 101 steps without any", () -> none.usedAfter(101));
  }

  private static void throwsChangeNothing() {
    HayBarn x = Check.taught("barn 9;loft 3;promote 0;hook a;hook b;"
        + "make b size step+1 ropes 1;drop b;");
    x.make(0, 3, 2);
    x.copyNow();
    x.make(0, 2, 1);
    Check.feed(x, "hook");
    LongSupplier[] states = {() -> x.placeOf(1), () -> x.sizeOf(1), () -> x.ropesOf(1),
        () -> x.ageOf(1), () -> x.isInLoft(1) ? 1 : 0, () -> x.ropeLeads(0, 1) ? 1 : 0,
        () -> x.ropesBetween(0, 1), () -> x.tie(0, 0, 1), () -> x.tie(0, 1, 0),
        () -> x.tie(1, 0, 0), () -> x.follow(0, 1, 0), () -> x.follow(1, 0, 0),
        () -> x.follow(1, 0, 1), () -> x.drop(1)};
    for (int i = 0; i < states.length; i++) {
      Check.refused(x, "call " + i, IllegalStateException.class, states[i]);
    }
    LongSupplier[] arguments = {() -> x.make(1, 0, 0), () -> x.make(1, 9, 4), () -> x.trim(5),
        () -> x.trim(-1), () -> x.work(0), () -> x.work(101), () -> x.usedAfter(0),
        () -> x.usedAfter(101)};
    for (int i = 0; i < arguments.length; i++) {
      Check.refused(x, "argument " + i, IllegalArgumentException.class, arguments[i]);
    }
    Check.due("the tape is as long as ahead", x.trim(4), 4);
    Check.due("it reads as ahead", x.teach(), 1);
    Check.due("it ends as ahead", x.errorAt(), 4);
  }
}
