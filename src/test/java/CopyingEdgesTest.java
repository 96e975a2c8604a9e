/**
 * The boundary cases of copying, promoting and sweeping, and of promises 34 and 35: a test for each
 * sentence of the document that names one. Bales are told apart by their sizes.
 */
public final class CopyingEdgesTest {
  public static void main(String[] args) {
    orderSentences();
    promoteSentences();
    copyingSentences();
    sweepSentences();
    Check.end("CopyingEdgesTest");
  }

  private static void orderSentences() {
    Check.sentence("those that hooks hold, in the order of hooks", CopyingEdgesTest::hooksInOrder);
    Check.sentence("hooks that hold none", CopyingEdgesTest::hooksOfNone);
    Check.sentence("then those to which ropes lead of bales that were in the loft",
        CopyingEdgesTest::loftRopesNext);
    Check.sentence("in the order of their places", CopyingEdgesTest::loftByPlaces);
    Check.sentence("each rope by its number", CopyingEdgesTest::loftRopesByNumber);
    Check.sentence("useless bales of the loft too", CopyingEdgesTest::uselessLoftRopes);
    Check.sentence("in the loft ahead of it: not one promoted by its hook",
        CopyingEdgesTest::notPromotedByHook);
    Check.sentence("in the loft ahead of it: not one promoted by a rope of the loft",
        CopyingEdgesTest::notPromotedByRope);
    Check.sentence("of the bale that was taken over first, those to which its ropes lead",
        CopyingEdgesTest::firstTakenFirst);
    Check.sentence("in the order of ropes", CopyingEdgesTest::orderOfRopes);
    Check.sentence("ropes of a bale promoted now have their turn like others",
        CopyingEdgesTest::ropesOfPromoted);
    Check.sentence("again and again", CopyingEdgesTest::longChain);
    Check.sentence("each one is taken over once", CopyingEdgesTest::eachOnce);
    Check.sentence("rings, and a bale that leads to itself", CopyingEdgesTest::rings);
  }

  private static void promoteSentences() {
    Check.sentence("promoted, if its age is as many copyings", CopyingEdgesTest::oldEnough);
    Check.sentence("or more", CopyingEdgesTest::olderThanThat);
    Check.sentence("a gap of its size at least", CopyingEdgesTest::gapOfItsSize);
    Check.sentence("the first such gap", CopyingEdgesTest::firstGap);
    Check.sentence("at the beginning of the first such gap", CopyingEdgesTest::beginningOfGap);
    Check.sentence("the first such gap then", CopyingEdgesTest::gapThen);
    Check.sentence("no gap in a loft without places", CopyingEdgesTest::noLoft);
    Check.sentence("a full loft of 64 places", CopyingEdgesTest::fullLoft);
    Check.sentence("otherwise it is copied, and its age is 1 more", CopyingEdgesTest::oneOlder);
    Check.sentence("a promoted one keeps its age and its place", CopyingEdgesTest::keepsAge);
  }

  private static void copyingSentences() {
    Check.sentence("34. a copying of nothing", CopyingEdgesTest::copyNothing);
    Check.sentence("34. returns how many bales are gone by it", CopyingEdgesTest::copyReturns);
    Check.sentence("the first empty place of the new working half", CopyingEdgesTest::noGapsLeft);
    Check.sentence("hooks and ropes hold and lead to the same bales", CopyingEdgesTest::sameBales);
    Check.sentence("bales of the old half that are not taken over are gone, no others",
        CopyingEdgesTest::loftStays);
    Check.sentence("those that are gone leave their places to others",
        CopyingEdgesTest::goneLeavePlaces);
    Check.sentence("a bale of the loft that a hook holds stays there",
        CopyingEdgesTest::heldInLoft);
  }

  private static void sweepSentences() {
    Check.sentence("35. a sweep of nothing", CopyingEdgesTest::sweepNothing);
    Check.sentence("35. returns how many bales are gone by it", CopyingEdgesTest::sweepReturns);
    Check.sentence("all useless bales of the loft are gone, no others",
        CopyingEdgesTest::sweepUselessOnly);
    Check.sentence("reached ones of the loft stay", CopyingEdgesTest::sweepKeepsReached);
    Check.sentence("a useless bale of the half keeps none", CopyingEdgesTest::sweepOfUselessRope);
    Check.sentence("ropes of others that led to one of them lead to none",
        CopyingEdgesTest::sweepUnties);
    Check.sentence("ropes of others: of a bale made ahead of the swept one too",
        CopyingEdgesTest::sweepUntiesOlder);
    Check.sentence("swept ones leave their places to others", CopyingEdgesTest::sweptLeavePlaces);
    Check.sentence("ropes of others that led to others lead there still",
        CopyingEdgesTest::sweepKeepsRopes);
    Check.sentence("their places are empty", CopyingEdgesTest::sweepEmpties);
    Check.sentence("a sweep is no copying, and leaves the halves", CopyingEdgesTest::sweepIsNoCopy);
    Check.sentence("bales that swept ones led to are not gone by it",
        CopyingEdgesTest::sweepLeavesHalf);
  }

  private static void digest(String what, HayBarn x, int... numbers) {
    long d = 971;
    for (int number : numbers) {
      d = d * 31 + number;
    }
    Check.due("digest " + what, x.digest(), d);
  }

  /** Makes a bale by a spare hook, and lets a rope of another hook's bale lead to it. */
  private static void tieNew(HayBarn x, int hook, int rope, int spare, int size, int ropes) {
    x.make(spare, size, ropes);
    x.tie(hook, rope, spare);
    x.drop(spare);
  }

  /** Where the bale lies to which the rope leads: its place, and 100 times its size. */
  private static int seen(HayBarn x, int hook, int rope, int spare) {
    x.follow(spare, hook, rope);
    int seen = x.sizeOf(spare) * 100 + x.placeOf(spare) + (x.isInLoft(spare) ? 10000 : 0);
    x.drop(spare);
    return seen;
  }

  // ---- the order

  private static void hooksInOrder() {
    HayBarn x = Check.taught("barn 30;hook a;hook b;hook c;hook d;hook e;hook f;");
    for (int hook = 5; hook >= 0; hook--) {
      x.make(hook, hook + 1, 0);
    }
    Check.due("copyNow", x.copyNow(), 0);
    int place = 0;
    for (int hook = 0; hook < 6; hook++) {
      Check.due("placeOf " + hook, x.placeOf(hook), place);
      place += hook + 1;
    }
  }

  private static void hooksOfNone() {
    HayBarn x = Check.taught("barn 30;hook a;hook b;hook c;");
    x.make(1, 2, 0);
    Check.due("copyNow", x.copyNow(), 0);
    Check.due("a", x.holdsBale(0), false);
    Check.due("b", x.placeOf(1), 0);
    Check.due("c", x.holdsBale(2), false);
    Check.due("usedPlaces", x.usedPlaces(), 2);
  }

  /** a and b in a full loft of four places, a at 0 and b at 2, each with three ropes. */
  private static HayBarn twoInLoft() {
    HayBarn x = Check.taught("barn 40;loft 4;promote 0;hook a;hook b;hook c;hook d;hook e;");
    x.make(0, 2, 3);
    x.make(1, 2, 3);
    x.copyNow();
    Check.due("both are in the loft", x.usedInLoft(), 4);
    return x;
  }

  private static void loftRopesNext() {
    HayBarn x = twoInLoft();
    x.make(2, 1, 1);
    tieNew(x, 2, 0, 4, 3, 0);
    x.make(3, 4, 0);
    tieNew(x, 0, 0, 4, 5, 0);
    x.copyNow();
    Check.due("c, by its hook", x.placeOf(2), 0);
    Check.due("d, by its hook", x.placeOf(3), 1);
    Check.due("by a's rope", seen(x, 0, 0, 4), 505);
    Check.due("by c's rope", seen(x, 2, 0, 4), 310);
  }

  private static void loftByPlaces() {
    HayBarn x = twoInLoft();
    x.drop(0);
    x.sweepLoft();
    x.make(0, 2, 1);
    x.copyNow();
    Check.due("the later one lies ahead", x.placeOf(0), 0);
    tieNew(x, 1, 0, 4, 1, 0);
    tieNew(x, 0, 0, 4, 3, 0);
    x.copyNow();
    Check.due("by the rope at place 0", seen(x, 0, 0, 4), 300);
    Check.due("by the rope at place 2", seen(x, 1, 0, 4), 103);
  }

  private static void loftRopesByNumber() {
    HayBarn x = twoInLoft();
    tieNew(x, 0, 2, 4, 1, 0);
    tieNew(x, 1, 0, 4, 5, 0);
    tieNew(x, 0, 0, 4, 3, 0);
    tieNew(x, 0, 1, 4, 2, 0);
    x.copyNow();
    Check.due("rope 0", seen(x, 0, 0, 4), 300);
    Check.due("rope 1", seen(x, 0, 1, 4), 203);
    Check.due("rope 2", seen(x, 0, 2, 4), 105);
    Check.due("rope 0 of b", seen(x, 1, 0, 4), 506);
  }

  private static void uselessLoftRopes() {
    HayBarn x = twoInLoft();
    tieNew(x, 0, 0, 4, 5, 1);
    x.drop(0);
    x.make(2, 3, 0);
    Check.due("two are useless", x.uselessBales(), 2);
    Check.due("none is gone", x.copyNow(), 0);
    Check.due("usedPlaces", x.usedPlaces(), 8);
    Check.due("c by its hook", x.placeOf(2), 0);
    x.sweepLoft();
    Check.due("one is gone then", x.copyNow(), 1);
  }

  /** The new a is promoted to place 0, ahead of b: but b was there ahead of the copying. */
  private static void notPromotedByHook() {
    HayBarn x = twoInLoft();
    x.drop(0);
    x.sweepLoft();
    x.make(0, 2, 1);
    tieNew(x, 0, 0, 4, 1, 0);
    tieNew(x, 1, 0, 4, 3, 0);
    x.copyNow();
    Check.due("a is in the loft", x.isInLoft(0), true);
    Check.due("a lies at 0", x.placeOf(0), 0);
    Check.due("by b's rope", seen(x, 1, 0, 4), 300);
    Check.due("by a's rope", seen(x, 0, 0, 4), 103);
  }

  /** The rope of a, at 0, brings one to place 2; c, at 4, is looked at ahead of that one. */
  private static void notPromotedByRope() {
    HayBarn x = Check.taught("barn 40;loft 6;promote 0;hook a;hook b;hook c;hook d;hook e;");
    x.make(0, 2, 1);
    x.make(1, 2, 1);
    x.make(2, 2, 1);
    x.copyNow();
    x.drop(1);
    x.sweepLoft();
    x.make(3, 2, 1);
    x.tie(0, 0, 3);
    tieNew(x, 3, 0, 4, 1, 0);
    x.drop(3);
    tieNew(x, 2, 0, 4, 3, 0);
    x.copyNow();
    Check.due("by a's rope", seen(x, 0, 0, 4), 10202);
    Check.due("by c's rope", seen(x, 2, 0, 4), 300);
    x.follow(3, 0, 0);
    Check.due("by the rope of the promoted one", seen(x, 3, 0, 4), 103);
  }

  private static void firstTakenFirst() {
    HayBarn x = Check.taught("barn 40;loft 0;hook a;hook b;hook c;hook d;");
    x.make(0, 1, 2);
    x.make(1, 1, 2);
    x.make(2, 2, 1);
    x.tie(0, 0, 2);
    tieNew(x, 2, 0, 3, 3, 0);
    x.drop(2);
    tieNew(x, 0, 1, 3, 4, 0);
    tieNew(x, 1, 0, 3, 5, 0);
    x.copyNow();
    Check.due("of a, rope 0", seen(x, 0, 0, 3), 202);
    Check.due("of a, rope 1", seen(x, 0, 1, 3), 404);
    Check.due("of b, rope 0", seen(x, 1, 0, 3), 508);
    x.follow(2, 0, 0);
    Check.due("of a's first one", seen(x, 2, 0, 3), 313);
  }

  private static void orderOfRopes() {
    HayBarn x = Check.taught("barn 40;loft 0;hook a;hook b;");
    x.make(0, 1, 3);
    tieNew(x, 0, 2, 1, 2, 0);
    tieNew(x, 0, 1, 1, 3, 0);
    tieNew(x, 0, 0, 1, 4, 0);
    x.copyNow();
    Check.due("rope 0", seen(x, 0, 0, 1), 401);
    Check.due("rope 1", seen(x, 0, 1, 1), 305);
    Check.due("rope 2", seen(x, 0, 2, 1), 208);
  }

  /** a is promoted by this copying, b is too large for it; a was taken over first. */
  private static void ropesOfPromoted() {
    HayBarn x = Check.taught("barn 40;loft 1;promote 0;hook a;hook b;hook c;");
    x.make(1, 2, 1);
    tieNew(x, 1, 0, 2, 3, 0);
    x.make(0, 1, 1);
    tieNew(x, 0, 0, 2, 4, 0);
    Check.due("none is gone", x.copyNow(), 0);
    Check.due("a", x.isInLoft(0), true);
    Check.due("b", x.placeOf(1), 0);
    Check.due("of a", seen(x, 0, 0, 2), 402);
    Check.due("of b", seen(x, 1, 0, 2), 306);
  }

  private static void longChain() {
    HayBarn x = Check.taught("barn 64;loft 0;hook a;hook b;");
    x.make(0, 1, 1);
    for (int i = 1; i < 64; i++) {
      x.make(1, 1, 2);
      x.tie(1, 0, 0);
      x.tie(1, 1, 1);
      x.follow(0, 1, 1);
    }
    x.drop(1);
    Check.due("none is gone", x.copyNow(), 0);
    Check.due("usedPlaces", x.usedPlaces(), 64);
    for (int place = 1; place < 64; place++) {
      Check.due("follow", x.follow(0, 0, 0), place);
    }
  }

  private static void eachOnce() {
    HayBarn x = Check.taught("barn 40;loft 0;hook a;hook b;hook c;");
    x.make(0, 2, 3);
    x.make(1, 3, 3);
    for (int rope = 0; rope < 3; rope++) {
      x.tie(0, rope, 1);
      x.tie(1, rope, 0);
    }
    x.follow(2, 1, 0);
    for (int copying = 1; copying <= 3; copying++) {
      Check.due("copyNow", x.copyNow(), 0);
      Check.due("a", x.placeOf(0), 0);
      Check.due("b", x.placeOf(1), 2);
      Check.due("c", x.placeOf(2), 0);
      Check.due("bales", x.bales(), 2);
      Check.due("usedPlaces", x.usedPlaces(), 5);
      Check.due("age", x.ageOf(0), copying);
    }
  }

  private static void rings() {
    HayBarn x = Check.taught("barn 40;loft 0;hook a;hook b;hook c;");
    x.make(0, 1, 2);
    x.make(1, 2, 2);
    x.make(2, 3, 2);
    x.tie(0, 0, 0);
    x.tie(0, 1, 1);
    x.tie(1, 0, 2);
    x.tie(2, 0, 0);
    x.tie(2, 1, 2);
    x.drop(1);
    x.drop(2);
    Check.due("none is gone", x.copyNow(), 0);
    Check.due("itself", seen(x, 0, 0, 2), 100);
    Check.due("b", x.follow(1, 0, 1), 1);
    Check.due("c", x.follow(2, 1, 0), 3);
    Check.due("back to a", seen(x, 2, 0, 1), 100);
    x.drop(0);
    x.drop(2);
    Check.due("a ring that none holds is gone", x.copyNow(), 3);
  }

  // ---- promoting

  private static void oldEnough() {
    for (int promote = 0; promote <= 5; promote++) {
      HayBarn x = Check.taught("promote " + promote + ";hook a;");
      x.make(0, 2, 0);
      for (int copying = 1; copying <= promote; copying++) {
        x.copyNow();
        Check.due("not yet by " + copying + " of " + promote, x.isInLoft(0), false);
      }
      x.copyNow();
      Check.due("promote " + promote, x.isInLoft(0), true);
      Check.due("age", x.ageOf(0), promote);
      Check.due("balesPromoted", x.balesPromoted(), 1);
      Check.due("usedPlaces", x.usedPlaces(), 0);
    }
  }

  private static void olderThanThat() {
    HayBarn x = Check.taught("loft 2;promote 1;hook a;hook b;");
    x.make(0, 2, 0);
    x.make(1, 2, 0);
    for (int copying = 1; copying <= 6; copying++) {
      x.copyNow();
    }
    Check.due("b has no gap", x.isInLoft(1), false);
    Check.due("age of b", x.ageOf(1), 6);
    x.drop(0);
    x.sweepLoft();
    x.copyNow();
    Check.due("b has a gap", x.isInLoft(1), true);
    Check.due("age of b then", x.ageOf(1), 6);
  }

  private static void gapOfItsSize() {
    for (int size = 1; size <= 9; size++) {
      HayBarn x = Check.taught("loft " + size + ";promote 0;hook a;");
      x.make(0, size, 0);
      x.copyNow();
      Check.due("a gap of just its size", x.isInLoft(0), true);
      HayBarn y = Check.taught("loft " + (size - 1) + ";promote 0;hook a;");
      y.make(0, size, 0);
      y.copyNow();
      Check.due("a gap one too short", y.isInLoft(0), false);
      Check.due("its age", y.ageOf(0), 1);
    }
  }

  /** A loft of 13: gaps of 2 at 0, of 4 at 3, of 4 at 8, and of none behind 12. */
  private static HayBarn gaps() {
    HayBarn x = Check.taught("barn 40;loft 13;promote 0;hook a;hook b;hook c;hook d;hook e;"
        + "hook f;");
    int[] sizes = {2, 1, 4, 1, 4, 1};
    for (int hook = 0; hook < 6; hook++) {
      x.make(hook, sizes[hook], 0);
    }
    x.copyNow();
    x.drop(0);
    x.drop(2);
    x.drop(4);
    Check.due("three are gone", x.sweepLoft(), 3);
    Check.due("the longest gap", x.longestGap(), 4);
    return x;
  }

  private static void firstGap() {
    int[] places = {0, 0, 3, 3};
    for (int size = 1; size <= 4; size++) {
      HayBarn x = gaps();
      x.make(0, size, 0);
      x.copyNow();
      Check.due("in the loft", x.isInLoft(0), true);
      Check.due("of size " + size, x.placeOf(0), places[size - 1]);
    }
    HayBarn x = gaps();
    x.make(0, 5, 0);
    x.copyNow();
    Check.due("none for 5, though 10 are empty", x.isInLoft(0), false);
  }

  private static void beginningOfGap() {
    HayBarn x = gaps();
    x.make(0, 3, 0);
    x.copyNow();
    Check.due("a", x.placeOf(0), 3);
    Check.due("the rest behind it", x.longestGap(), 4);
    x.make(2, 1, 0);
    x.make(4, 1, 0);
    x.copyNow();
    Check.due("c", x.placeOf(2), 0);
    Check.due("e", x.placeOf(4), 1);
    x.make(2, 1, 0);
    x.copyNow();
    Check.due("in the rest", x.placeOf(2), 6);
  }

  /** Bales of one copying, one behind the other, into what the ones ahead leave. */
  private static void gapThen() {
    HayBarn x = gaps();
    x.make(0, 3, 0);
    x.make(2, 3, 0);
    x.make(4, 3, 0);
    x.copyNow();
    Check.due("the first one", x.placeOf(0), 3);
    Check.due("the second one", x.placeOf(2), 8);
    Check.due("the third one has no gap", x.isInLoft(4), false);
    HayBarn y = gaps();
    y.make(0, 2, 0);
    y.make(2, 2, 0);
    y.make(4, 2, 0);
    y.copyNow();
    Check.due("0", y.placeOf(0), 0);
    Check.due("3", y.placeOf(2), 3);
    Check.due("5, in the same gap", y.placeOf(4), 5);
  }

  private static void noLoft() {
    HayBarn x = Check.taught("loft 0;promote 0;hook a;");
    x.make(0, 1, 0);
    for (int copying = 1; copying <= 9; copying++) {
      Check.due("copyNow", x.copyNow(), 0);
      Check.due("isInLoft", x.isInLoft(0), false);
      Check.due("age", x.ageOf(0), copying);
    }
    Check.due("balesPromoted", x.balesPromoted(), 0);
  }

  private static void fullLoft() {
    HayBarn x = Check.taught("barn 64;loft 64;promote 0;hook a;");
    for (int i = 0; i < 64; i++) {
      x.make(0, 1, 0);
      x.copyNow();
      Check.due("one behind the other", x.placeOf(0), i);
      Check.due("usedInLoft", x.usedInLoft(), i + 1);
    }
    x.make(0, 1, 0);
    x.copyNow();
    Check.due("the 65th", x.isInLoft(0), false);
    Check.due("longestGap", x.longestGap(), 0);
    Check.due("sweepLoft", x.sweepLoft(), 64);
  }

  private static void oneOlder() {
    HayBarn x = Check.taught("loft 0;hook a;hook b;");
    x.make(0, 1, 1);
    x.make(1, 1, 0);
    x.tie(0, 0, 1);
    x.drop(1);
    for (int copying = 1; copying <= 100; copying++) {
      x.copyNow();
      Check.due("age by hook", x.ageOf(0), copying);
    }
    x.follow(1, 0, 0);
    Check.due("age by rope", x.ageOf(1), 100);
  }

  private static void keepsAge() {
    HayBarn x = Check.taught("loft 3;promote 2;hook a;hook b;");
    x.make(0, 1, 0);
    x.copyNow();
    x.make(1, 1, 0);
    for (int copying = 2; copying <= 9; copying++) {
      x.copyNow();
      Check.due("age of a", x.ageOf(0), 2);
      Check.due("a in the loft", x.isInLoft(0), copying >= 3);
      Check.due("age of b", x.ageOf(1), Math.min(copying - 1, 2));
      Check.due("b in the loft", x.isInLoft(1), copying >= 4);
    }
    Check.due("place of a", x.placeOf(0), 0);
    Check.due("place of b", x.placeOf(1), 1);
    Check.due("balesPromoted", x.balesPromoted(), 2);
  }

  // ---- copying

  private static void copyNothing() {
    HayBarn x = new HayBarn();
    Check.due("copyNow", x.copyNow(), 0);
    Check.due("copyings", x.copyings(), 1);
    Check.due("workingHalf", x.workingHalf(), 1);
    Check.due("copyNow again", x.copyNow(), 0);
    digest("of nothing", x, 0, 0, 16, 0, 0, 0, 0, 0, 16, 0, 0, 0, 2, 0, 0);
  }

  private static void copyReturns() {
    HayBarn x = Check.taught("barn 64;hook a;");
    for (int i = 0; i < 64; i++) {
      x.make(0, 1, 0);
    }
    Check.due("all but one", x.copyNow(), 63);
    Check.due("none", x.copyNow(), 0);
    x.drop(0);
    Check.due("the last one", x.copyNow(), 1);
    Check.due("none is there", x.copyNow(), 0);
    Check.due("balesGone", x.balesGone(), 64);
  }

  private static void noGapsLeft() {
    HayBarn x = Check.taught("barn 20;hook a;hook b;hook c;");
    x.make(0, 3, 0);
    x.make(1, 4, 0);
    x.make(2, 5, 0);
    x.drop(1);
    Check.due("the next one lies behind all", x.make(1, 1, 0), 12);
    x.copyNow();
    Check.due("a", x.placeOf(0), 0);
    Check.due("b", x.placeOf(1), 3);
    Check.due("c", x.placeOf(2), 4);
    Check.due("usedPlaces", x.usedPlaces(), 9);
    Check.due("a bale made behind it", x.make(0, 2, 0), 9);
  }

  private static void sameBales() {
    HayBarn x = Check.taught("barn 40;loft 3;promote 0;hook a;hook b;hook c;hook d;");
    x.make(3, 4, 1);
    x.make(1, 3, 2);
    x.make(0, 5, 3);
    x.tie(0, 0, 1);
    x.tie(0, 2, 3);
    x.tie(1, 1, 3);
    x.tie(3, 0, 0);
    x.follow(2, 0, 0);
    x.drop(3);
    x.copyNow();
    // a (5) copied to 0, b (3) promoted, c the same, of a: d (4) copied to 5.
    digest("behind it", x, 4, 0, 40, 0, 0, 1, 9, 3, 0, 3, 1, 0, 1, 1, 0,
        0, 5, 1, 3, 101, 0, 6,
        5, 4, 1, 1, 1,
        0, 3, 0, 2, 0, 6,
        1, 101, 101, 0);
  }

  private static void loftStays() {
    HayBarn x = twoInLoft();
    x.make(2, 3, 0);
    x.drop(0);
    x.drop(1);
    x.drop(2);
    Check.due("useless", x.uselessBales(), 3);
    Check.due("only the one of the half", x.copyNow(), 1);
    Check.due("balesInLoft", x.balesInLoft(), 2);
    Check.due("usedInLoft", x.usedInLoft(), 4);
    Check.due("usedPlaces", x.usedPlaces(), 0);
  }

  /** Far more bales in all than there are places for. */
  private static void goneLeavePlaces() {
    HayBarn x = Check.taught("barn 64;loft 0;hook a;make a size 1 ropes 3;");
    for (int i = 0; i < 20; i++) {
      Check.due("each step is done", x.work(100), 100);
    }
    Check.due("all but those of the half are gone", x.balesGone(), 2000 - x.bales());
    Check.due("usedPlaces", x.usedPlaces(), x.bales());
  }

  private static void heldInLoft() {
    HayBarn x = twoInLoft();
    x.tie(0, 0, 1);
    x.tie(1, 0, 0);
    for (int i = 0; i < 3; i++) {
      Check.due("copyNow", x.copyNow(), 0);
      Check.due("a", x.placeOf(0), 0);
      Check.due("b", x.placeOf(1), 2);
      Check.due("ages", x.ageOf(0) + x.ageOf(1), 0);
      Check.due("balesPromoted", x.balesPromoted(), 2);
      Check.due("usedPlaces", x.usedPlaces(), 0);
    }
  }

  // ---- sweeping

  private static void sweepNothing() {
    HayBarn x = new HayBarn();
    Check.due("sweepLoft", x.sweepLoft(), 0);
    HayBarn y = Check.taught("loft 0;hook a;");
    y.make(0, 1, 0);
    y.drop(0);
    long state = Check.state(y);
    Check.due("sweep without a loft", y.sweepLoft(), 0);
    Check.due("nothing is changed", Check.state(y), state);
  }

  private static void sweepReturns() {
    HayBarn x = twoInLoft();
    Check.due("none is useless", x.sweepLoft(), 0);
    x.drop(0);
    Check.due("one", x.sweepLoft(), 1);
    Check.due("none again", x.sweepLoft(), 0);
    x.drop(1);
    Check.due("the last one", x.sweepLoft(), 1);
    Check.due("balesGone", x.balesGone(), 2);
    HayBarn y = twoInLoft();
    y.tie(0, 0, 1);
    y.tie(1, 0, 0);
    y.drop(0);
    y.drop(1);
    Check.due("a ring of two", y.sweepLoft(), 2);
  }

  private static void sweepUselessOnly() {
    HayBarn x = twoInLoft();
    x.make(2, 3, 0);
    x.make(2, 4, 0);
    x.drop(0);
    Check.due("useless", x.uselessBales(), 2);
    Check.due("only the one of the loft", x.sweepLoft(), 1);
    Check.due("the one of the half is there", x.uselessBales(), 1);
    Check.due("usedPlaces", x.usedPlaces(), 7);
    Check.due("b", x.placeOf(1), 2);
    Check.due("c", x.placeOf(2), 3);
  }

  private static void sweepKeepsReached() {
    HayBarn x = twoInLoft();
    x.tie(0, 2, 1);
    x.drop(1);
    Check.due("by a rope within the loft", x.sweepLoft(), 0);
    x.make(2, 1, 1);
    x.tie(2, 0, 0);
    x.drop(0);
    Check.due("by a rope out of the half", x.sweepLoft(), 0);
    x.follow(1, 2, 0);
    x.follow(1, 1, 2);
    Check.due("it is the same bale", x.placeOf(1), 2);
    x.drop(1);
    x.drop(2);
    Check.due("by none", x.sweepLoft(), 2);
  }

  private static void sweepOfUselessRope() {
    HayBarn x = twoInLoft();
    x.make(2, 1, 1);
    x.tie(2, 0, 0);
    x.drop(0);
    x.drop(2);
    Check.due("sweepLoft", x.sweepLoft(), 1);
    Check.due("balesInLoft", x.balesInLoft(), 1);
  }

  private static void sweepUnties() {
    HayBarn x = twoInLoft();
    x.make(2, 1, 3);
    x.tie(2, 0, 0);
    x.tie(2, 1, 1);
    x.tie(2, 2, 0);
    x.drop(0);
    x.drop(2);
    Check.due("sweepLoft", x.sweepLoft(), 1);
    digest("behind it", x, 5, 0, 40, 0, 0, 1, 1, 2, 2, 2, 1, 1, 1, 2, 1,
        0, 1, 0, 3, 0, 103, 0,
        2, 2, 0, 3, 0, 0, 0,
        0, 103, 0, 0, 0);
    // A bale made anew must not be the one to which the old ropes lead.
    x.make(0, 2, 1);
    digest("behind a new one", x, 5, 0, 40, 0, 0, 1, 3, 2, 2, 3, 1, 1, 1, 2, 1,
        0, 1, 0, 3, 0, 103, 0,
        1, 2, 0, 1, 0,
        2, 2, 0, 3, 0, 0, 0,
        2, 103, 0, 0, 0);
  }

  private static void sweepUntiesOlder() {
    HayBarn x = Check.taught("barn 20;loft 2;promote 0;hook a;hook b;");
    x.make(0, 5, 2);
    x.make(1, 2, 0);
    x.tie(0, 0, 1);
    x.tie(0, 1, 0);
    x.copyNow();
    Check.due("b is in the loft", x.isInLoft(1), true);
    x.drop(1);
    x.drop(0);
    Check.due("sweepLoft", x.sweepLoft(), 1);
    digest("behind it", x, 2, 0, 20, 0, 0, 1, 5, 0, 2, 1, 0, 1, 1, 1, 1,
        0, 5, 1, 2, 0, 1,
        0, 0);
  }

  /** The steps make a chain of 64 bales, which is promoted, let go, and swept. */
  private static void sweptLeavePlaces() {
    HayBarn x = Check.taught("barn 64;loft 64;promote 0;hook a;hook b;make b size 1 ropes 2;"
        + "tie b rope 0 to a when has a;tie b rope 1 to b;follow a by b rope 1;");
    for (int i = 1; i <= 6; i++) {
      x.work(100);
      x.work(100);
      x.work(56);
      Check.due("usedPlaces", x.usedPlaces(), 64);
      Check.due("none is gone", x.copyNow(), 0);
      Check.due("usedInLoft", x.usedInLoft(), 64);
      x.drop(0);
      x.drop(1);
      Check.due("sweepLoft", x.sweepLoft(), 64);
      Check.due("balesPromoted", x.balesPromoted(), 64 * i);
    }
  }

  private static void sweepKeepsRopes() {
    HayBarn x = twoInLoft();
    x.make(2, 1, 3);
    x.tie(2, 0, 1);
    x.tie(2, 1, 2);
    x.tie(1, 1, 2);
    x.drop(0);
    x.drop(1);
    Check.due("sweepLoft", x.sweepLoft(), 1);
    Check.due("into the loft", seen(x, 2, 0, 4), 10202);
    Check.due("to itself", seen(x, 2, 1, 4), 100);
    Check.due("none", x.ropeLeads(2, 2), false);
    x.follow(1, 2, 0);
    Check.due("out of the loft", seen(x, 1, 1, 4), 100);
  }

  private static void sweepEmpties() {
    HayBarn x = twoInLoft();
    x.drop(0);
    x.sweepLoft();
    Check.due("usedInLoft", x.usedInLoft(), 2);
    Check.due("longestGap", x.longestGap(), 2);
    x.make(0, 2, 0);
    x.copyNow();
    Check.due("another one lies there", x.placeOf(0), 0);
    Check.due("isInLoft", x.isInLoft(0), true);
    Check.due("longestGap behind", x.longestGap(), 0);
  }

  private static void sweepIsNoCopy() {
    HayBarn x = twoInLoft();
    x.make(2, 3, 0);
    x.make(3, 1, 0);
    x.drop(0);
    x.drop(2);
    x.sweepLoft();
    Check.due("copyings", x.copyings(), 1);
    Check.due("workingHalf", x.workingHalf(), 1);
    Check.due("d", x.placeOf(3), 3);
    Check.due("ageOf d", x.ageOf(3), 0);
    Check.due("usedPlaces", x.usedPlaces(), 4);
  }

  private static void sweepLeavesHalf() {
    HayBarn x = twoInLoft();
    tieNew(x, 0, 0, 4, 3, 1);
    x.drop(0);
    Check.due("a keeps it by copying", x.copyNow(), 0);
    Check.due("only a is gone", x.sweepLoft(), 1);
    Check.due("bales", x.bales(), 2);
    Check.due("usedPlaces", x.usedPlaces(), 3);
    Check.due("it is gone by the next copying", x.copyNow(), 1);
  }
}
