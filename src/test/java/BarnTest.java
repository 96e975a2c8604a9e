/** Promises 9 to 35, 40 and 41: bales, copying, sweeping, what hooks hold, and what is done by hand. */
public final class BarnTest {
  public static void main(String[] args) {
    noSuchHook();
    emptyHooks();
    making();
    makingRefused();
    tying();
    following();
    dropping();
    holding();
    between();
    copyingOrder();
    copyingOrderFromLoft();
    promoting();
    promotingIntoGaps();
    promotedKeepTheirAge();
    uselessInLoftKeepOthers();
    sweeping();
    sweepingUnties();
    digests();
    Check.end("BarnTest");
  }

  private static void noSuchHook() {
    HayBarn x = Check.taught("hook a; hook b;");
    x.make(0, 1, 1);
    for (int hook : new int[] {-1, 2, 6, 7, Integer.MIN_VALUE, Integer.MAX_VALUE}) {
      Check.noHook("holdsBale " + hook, () -> x.holdsBale(hook) ? 1 : 0);
      Check.noHook("placeOf " + hook, () -> x.placeOf(hook));
      Check.noHook("sizeOf " + hook, () -> x.sizeOf(hook));
      Check.noHook("ropesOf " + hook, () -> x.ropesOf(hook));
      Check.noHook("ageOf " + hook, () -> x.ageOf(hook));
      Check.noHook("isInLoft " + hook, () -> x.isInLoft(hook) ? 1 : 0);
      Check.noHook("ropeLeads " + hook, () -> x.ropeLeads(hook, 0) ? 1 : 0);
      Check.noHook("holdSame 0 " + hook, () -> x.holdSame(0, hook) ? 1 : 0);
      Check.noHook("holdSame " + hook, () -> x.holdSame(hook, 0) ? 1 : 0);
      Check.noHook("ropesBetween 0 " + hook, () -> x.ropesBetween(0, hook));
      Check.noHook("ropesBetween " + hook, () -> x.ropesBetween(hook, 0));
      Check.noHook("ropesBetween 1 " + hook, () -> x.ropesBetween(1, hook));
      Check.noHook("make " + hook, () -> x.make(hook, 1, 1));
      Check.noHook("make of size 0 " + hook, () -> x.make(hook, 0, 4));
      Check.noHook("tie " + hook, () -> x.tie(hook, 0, 0));
      Check.noHook("tie 1 0 " + hook, () -> x.tie(1, 0, hook));
      Check.noHook("follow " + hook, () -> x.follow(hook, 0, 0));
      Check.noHook("follow 0 " + hook, () -> x.follow(0, hook, 0));
      Check.noHook("drop " + hook, () -> x.drop(hook));
    }
  }

  private static void emptyHooks() {
    HayBarn x = Check.taught("hook a; hook b;");
    Check.due("holdsBale", x.holdsBale(0), false);
    Check.noState("placeOf", () -> x.placeOf(0));
    Check.noState("sizeOf", () -> x.sizeOf(0));
    Check.noState("ropesOf", () -> x.ropesOf(0));
    Check.noState("ageOf", () -> x.ageOf(0));
    Check.noState("isInLoft", () -> x.isInLoft(0) ? 1 : 0);
    Check.noState("ropeLeads", () -> x.ropeLeads(0, 0) ? 1 : 0);
    Check.due("holdSame 0 0 of none", x.holdSame(0, 0), false);
    Check.due("holdSame 0 1 of none", x.holdSame(0, 1), false);
    Check.noState("ropesBetween", () -> x.ropesBetween(0, 0));
    Check.noState("tie", () -> x.tie(0, 0, 0));
    Check.noState("follow", () -> x.follow(0, 0, 0));
    Check.noState("drop", () -> x.drop(0));
    x.make(0, 1, 1);
    Check.noState("tie to none", () -> x.tie(0, 0, 1));
    Check.noState("tie of none", () -> x.tie(1, 0, 0));
    Check.noState("ropesBetween to none", () -> x.ropesBetween(0, 1));
    Check.noState("ropesBetween from none", () -> x.ropesBetween(1, 0));
    Check.noState("follow a rope that leads to none", () -> x.follow(1, 0, 0));
    Check.noState("follow of none", () -> x.follow(0, 1, 0));
    Check.due("holdSame of one and none", x.holdSame(0, 1), false);
    Check.due("refusals by hand are no steps", x.stepsRefused(), 0);
    Check.due("hands are no steps", x.stepsGoneBy(), 0);
  }

  private static void making() {
    HayBarn x = Check.taught("barn 16; hook a; hook b; hook c;");
    Check.due("make a", x.make(0, 9, 3), 0);
    Check.due("make b", x.make(1, 1, 0), 9);
    Check.due("make c", x.make(2, 6, 1), 10);
    Check.due("sizeOf a", x.sizeOf(0), 9);
    Check.due("sizeOf b", x.sizeOf(1), 1);
    Check.due("ropesOf a", x.ropesOf(0), 3);
    Check.due("ropesOf b", x.ropesOf(1), 0);
    Check.due("placeOf b", x.placeOf(1), 9);
    Check.due("ageOf a", x.ageOf(0), 0);
    Check.due("isInLoft a", x.isInLoft(0), false);
    Check.due("usedPlaces", x.usedPlaces(), 16);
    Check.due("no copying for the last place", x.copyings(), 0);
    Check.due("bales", x.bales(), 3);
    Check.due("meanSize", x.meanSize(), 16.0 / 3.0);
    // The old bale of b is held until the new one is made, and so it is copied.
    Check.noState("make b of 1", () -> x.make(1, 1, 0));
    Check.due("copyings by a refusal", x.copyings(), 1);
    Check.due("workingHalf 1", x.workingHalf(), 1);
    Check.due("b holds its old bale", x.sizeOf(1), 1);
    Check.due("ageOf b", x.ageOf(1), 1);
    x.drop(2);
    Check.due("make c behind a copying", x.make(2, 2, 0), 10);
    Check.due("copyings", x.copyings(), 2);
    Check.due("workingHalf 0", x.workingHalf(), 0);
    Check.due("balesGone", x.balesGone(), 1);
    Check.due("bales behind", x.bales(), 3);
    Check.due("usedPlaces behind", x.usedPlaces(), 12);
  }

  private static void makingRefused() {
    HayBarn x = Check.taught("barn 8; hook a;");
    Check.noArgument("size 0", () -> x.make(0, 0, 0));
    Check.noArgument("size 10", () -> x.make(0, 10, 0));
    Check.noArgument("size -1", () -> x.make(0, -1, 0));
    Check.noArgument("ropes 4", () -> x.make(0, 1, 4));
    Check.noArgument("ropes -1", () -> x.make(0, 1, -1));
    Check.due("no copying by wrong arguments", x.copyings(), 0);
    Check.noState("size 9 in 8 places", () -> x.make(0, 9, 0));
    Check.due("a copying of nothing", x.copyings(), 1);
    Check.due("holds none", x.holdsBale(0), false);
    Check.due("size 8 in 8 places", x.make(0, 8, 0), 0);
    Check.due("no copying more", x.copyings(), 1);
  }

  private static void tying() {
    HayBarn x = Check.taught("hook a; hook b;");
    x.make(0, 1, 3);
    x.make(1, 1, 0);
    Check.due("ropeLeads new", x.ropeLeads(0, 0), false);
    Check.due("tie 0", x.tie(0, 0, 1), 1);
    Check.due("tie 2", x.tie(0, 2, 0), 2);
    Check.due("tie 2 again", x.tie(0, 2, 1), 2);
    Check.due("ropeLeads 0", x.ropeLeads(0, 0), true);
    Check.due("ropeLeads 1", x.ropeLeads(0, 1), false);
    Check.due("ropeLeads 2", x.ropeLeads(0, 2), true);
    Check.due("tie 1", x.tie(0, 1, 1), 3);
    for (int rope : new int[] {3, -1, Integer.MIN_VALUE, Integer.MAX_VALUE}) {
      Check.noState("tie " + rope, () -> x.tie(0, rope, 1));
      Check.noState("ropeLeads " + rope, () -> x.ropeLeads(0, rope) ? 1 : 0);
      Check.noState("follow " + rope, () -> x.follow(0, 0, rope));
    }
    Check.noState("tie of a bale without ropes", () -> x.tie(1, 0, 0));
    Check.noState("ropeLeads of a bale without ropes", () -> x.ropeLeads(1, 0) ? 1 : 0);
  }

  private static void following() {
    HayBarn x = Check.taught("hook a; hook b; hook c;");
    x.make(0, 3, 1);
    x.make(1, 2, 1);
    x.tie(0, 0, 1);
    x.tie(1, 0, 0);
    Check.due("follow c by a", x.follow(2, 0, 0), 3);
    Check.due("c as b", x.holdSame(2, 1), true);
    Check.due("c not as a", x.holdSame(2, 0), false);
    Check.due("follow a by a", x.follow(0, 0, 0), 3);
    Check.due("a as b", x.holdSame(0, 1), true);
    Check.due("the first one is reached still", x.uselessBales(), 0);
    Check.due("follow a back", x.follow(0, 0, 0), 0);
    Check.due("sizeOf a", x.sizeOf(0), 3);
  }

  private static void dropping() {
    HayBarn x = Check.taught("hook a; hook b; hook c;");
    x.make(0, 1, 1);
    x.make(1, 1, 1);
    x.make(2, 1, 0);
    x.tie(0, 0, 1);
    x.tie(1, 0, 2);
    Check.due("drop c", x.drop(2), 0);
    Check.due("holdsBale c", x.holdsBale(2), false);
    Check.due("drop b", x.drop(1), 0);
    Check.due("drop a", x.drop(0), 3);
    Check.due("uselessBales", x.uselessBales(), 3);
    Check.due("bales are there still", x.bales(), 3);
    Check.due("used still", x.usedPlaces(), 3);
    Check.noState("drop a again", () -> x.drop(0));
  }

  private static void holding() {
    HayBarn x = Check.taught("hook a; hook b;");
    x.make(0, 2, 1);
    Check.due("holdSame a a", x.holdSame(0, 0), true);
    x.make(1, 2, 1);
    Check.due("holdSame a b", x.holdSame(0, 1), false);
    x.tie(1, 0, 0);
    x.follow(1, 1, 0);
    Check.due("holdSame b a", x.holdSame(1, 0), true);
    x.copyNow();
    Check.due("holdSame behind a copying", x.holdSame(0, 1), true);
    Check.due("bales", x.bales(), 1);
  }

  private static void between() {
    HayBarn x = Check.taught("hook a; hook b; hook c; hook d; hook e;");
    for (int hook = 0; hook < 5; hook++) {
      x.make(hook, 1, 3);
    }
    x.tie(0, 0, 1);
    x.tie(1, 2, 2);
    x.tie(2, 1, 3);
    x.tie(3, 0, 0);
    Check.due("a to a", x.ropesBetween(0, 0), 0);
    Check.due("a to b", x.ropesBetween(0, 1), 1);
    Check.due("a to c", x.ropesBetween(0, 2), 2);
    Check.due("a to d", x.ropesBetween(0, 3), 3);
    Check.due("a to e", x.ropesBetween(0, 4), -1);
    Check.due("b to a", x.ropesBetween(1, 0), 3);
    Check.due("e to a", x.ropesBetween(4, 0), -1);
    x.tie(0, 2, 2);
    Check.due("a to d the short way", x.ropesBetween(0, 3), 2);
    x.tie(4, 0, 4);
    Check.due("e to e", x.ropesBetween(4, 4), 0);
  }

  /** Hooks first, in their order, then ropes, bale by bale in the order of taking over. */
  private static void copyingOrder() {
    HayBarn x = Check.taught("barn 40; loft 0; hook a; hook b; hook c; hook d; hook e; hook f;");
    for (int hook = 5; hook >= 0; hook--) {
      x.make(hook, hook + 1, 3);
    }
    x.tie(1, 2, 5);
    x.tie(1, 1, 4);
    x.tie(0, 2, 3);
    x.tie(3, 0, 2);
    x.tie(4, 0, 0);
    x.drop(2);
    x.drop(3);
    x.drop(4);
    x.drop(5);
    Check.due("nothing is gone", x.copyNow(), 0);
    // a (1), b (2), then of a: d (4), of b: e (5), f (6), of d: c (3).
    Check.due("a", x.placeOf(0), 0);
    Check.due("b", x.placeOf(1), 1);
    x.follow(2, 0, 2);
    Check.due("d", x.placeOf(2), 3);
    Check.due("e", x.follow(3, 1, 1), 7);
    Check.due("f", x.follow(4, 1, 2), 12);
    Check.due("c", x.follow(5, 2, 0), 18);
    Check.due("sizes", x.sizeOf(5) * 10000 + x.sizeOf(4) * 100 + x.sizeOf(3), 30605);
    Check.due("ages", x.ageOf(5), 1);
    Check.due("used", x.usedPlaces(), 21);
    Check.due("usedIfCopied", x.usedIfCopied(), 21);
    x.drop(0);
    Check.due("usedIfCopied without a", x.usedIfCopied(), 21);
    x.drop(3);
    x.drop(1);
    Check.due("usedIfCopied without a, b, e", x.usedIfCopied(), 13);
    Check.due("nothing is changed by asking", x.usedPlaces(), 21);
    Check.due("copyNow", x.copyNow(), 3);
    Check.due("used behind", x.usedPlaces(), 13);
    Check.due("c, d, f by hooks", x.placeOf(2) * 10000 + x.placeOf(4) * 100 + x.placeOf(5), 410);
  }

  /** Behind the hooks' bales come those of the loft's ropes, and only then those of ropes of new ones. */
  private static void copyingOrderFromLoft() {
    HayBarn x = Check.taught("barn 20; loft 4; promote 0; hook a; hook b; hook c; hook d;");
    x.make(0, 2, 1);
    x.make(1, 2, 2);
    Check.due("copy both into the loft", x.copyNow(), 0);
    Check.due("promoted", x.balesPromoted(), 2);
    Check.due("the loft is full", x.longestGap(), 0);
    x.make(2, 5, 1);
    x.make(3, 3, 0);
    x.tie(2, 0, 3);
    x.make(3, 4, 0);
    x.tie(1, 1, 3);
    x.make(3, 1, 0);
    x.tie(0, 0, 3);
    x.drop(3);
    Check.due("nothing is gone", x.copyNow(), 0);
    // c (5) by its hook, of a in the loft: 1, of b in the loft: 4, of c: 3.
    Check.due("c", x.placeOf(2), 0);
    Check.due("of a", x.follow(3, 0, 0), 5);
    Check.due("size of it", x.sizeOf(3), 1);
    Check.due("of b", x.follow(3, 1, 1), 6);
    Check.due("size of it", x.sizeOf(3), 4);
    Check.due("of c", x.follow(3, 2, 0), 10);
    Check.due("size of it", x.sizeOf(3), 3);
    Check.due("used", x.usedPlaces(), 13);
  }

  private static void promoting() {
    HayBarn x = Check.taught("barn 20; loft 7; promote 1; hook a; hook b; hook c;");
    x.make(0, 4, 1);
    x.make(1, 4, 1);
    x.make(2, 3, 1);
    x.tie(2, 0, 0);
    Check.due("1st copying", x.copyNow(), 0);
    Check.due("none is promoted", x.balesPromoted(), 0);
    Check.due("2nd copying", x.copyNow(), 0);
    Check.due("promoted", x.balesPromoted(), 2);
    Check.due("a in the loft", x.isInLoft(0), true);
    Check.due("b has no gap", x.isInLoft(1), false);
    Check.due("c in the loft", x.isInLoft(2), true);
    Check.due("place of a", x.placeOf(0), 0);
    Check.due("place of b", x.placeOf(1), 0);
    Check.due("place of c", x.placeOf(2), 4);
    Check.due("age of a", x.ageOf(0), 1);
    Check.due("age of b", x.ageOf(1), 2);
    Check.due("usedInLoft", x.usedInLoft(), 7);
    Check.due("balesInLoft", x.balesInLoft(), 2);
    Check.due("usedPlaces", x.usedPlaces(), 4);
    Check.due("longestGap", x.longestGap(), 0);
    Check.due("rope into the loft", x.ropesBetween(2, 0), 1);
    Check.due("meanSize with the loft", x.meanSize(), 11.0 / 3.0);
    Check.due("bales", x.bales(), 3);
  }

  private static void promotingIntoGaps() {
    HayBarn x = Check.taught("barn 30; loft 14; promote 0; hook a; hook b; hook c; hook d;");
    x.make(0, 3, 0);
    x.make(1, 2, 0);
    x.make(2, 4, 0);
    x.make(3, 1, 0);
    x.copyNow();
    Check.due("gap behind 10", x.longestGap(), 4);
    x.drop(0);
    x.drop(2);
    Check.due("sweepLoft", x.sweepLoft(), 2);
    Check.due("gaps 0-2, 5-8, 10-13", x.longestGap(), 4);
    Check.due("usedInLoft", x.usedInLoft(), 3);
    x.make(0, 4, 0);
    x.make(2, 4, 0);
    x.copyNow();
    Check.due("a in the first gap of 4", x.placeOf(0), 5);
    Check.due("c in the next one", x.placeOf(2), 10);
    Check.due("longestGap", x.longestGap(), 3);
    x.make(1, 2, 0);
    x.copyNow();
    Check.due("b at the beginning of the gap of 3", x.placeOf(1), 0);
    Check.due("longestGap behind", x.longestGap(), 1);
    Check.due("the old b is useless", x.uselessBales(), 1);
    Check.due("copying does not empty the loft", x.balesInLoft(), 5);
  }

  private static void promotedKeepTheirAge() {
    HayBarn x = Check.taught("barn 8; loft 3; promote 2; hook a;");
    x.make(0, 4, 0);
    for (int i = 1; i <= 4; i++) {
      x.copyNow();
      Check.due("age without a gap", x.ageOf(0), i);
    }
    HayBarn y = Check.taught("barn 8; loft 4; promote 2; hook a;");
    y.make(0, 4, 0);
    for (int i = 1; i <= 4; i++) {
      y.copyNow();
      Check.due("age with a gap", y.ageOf(0), Math.min(i, 2));
      Check.due("in the loft", y.isInLoft(0), i > 2);
    }
  }

  private static void uselessInLoftKeepOthers() {
    HayBarn x = Check.taught("barn 20; loft 5; promote 0; hook a; hook b;");
    x.make(0, 5, 1);
    x.copyNow();
    x.make(1, 6, 0);
    x.tie(0, 0, 1);
    x.drop(1);
    Check.due("drop a", x.drop(0), 2);
    Check.due("a useless bale of the loft keeps the other", x.copyNow(), 0);
    Check.due("bales", x.bales(), 2);
    Check.due("uselessBales", x.uselessBales(), 2);
    Check.due("sweepLoft", x.sweepLoft(), 1);
    Check.due("bales in half", x.bales() * 10 + x.balesInLoft(), 10);
    Check.due("copyNow", x.copyNow(), 1);
    Check.due("balesGone", x.balesGone(), 2);
    Check.due("meanSize of none", x.meanSize(), 0.0);
  }

  private static void sweeping() {
    HayBarn x = Check.taught("barn 20; loft 10; promote 0; hook a; hook b; hook c;");
    x.make(0, 2, 1);
    x.make(1, 3, 1);
    x.make(2, 4, 1);
    x.tie(0, 0, 1);
    x.copyNow();
    Check.due("sweep of none", x.sweepLoft(), 0);
    x.drop(1);
    Check.due("sweep of none, as ropes lead to b", x.sweepLoft(), 0);
    x.make(1, 1, 1);
    x.tie(1, 0, 2);
    x.drop(2);
    Check.due("sweep of none, as the half leads to c", x.sweepLoft(), 0);
    x.drop(1);
    Check.due("c is useless now, and the one in the half", x.uselessBales(), 2);
    Check.due("sweep of c alone", x.sweepLoft(), 1);
    Check.due("bales", x.bales(), 3);
    Check.due("usedInLoft", x.usedInLoft(), 5);
    Check.due("usedPlaces", x.usedPlaces(), 1);
    Check.due("balesGone", x.balesGone(), 1);
    Check.due("a sweep is no copying", x.copyings(), 1);
  }

  /** A useless bale of the half leads to a swept one: its rope leads to none then. */
  private static void sweepingUnties() {
    HayBarn x = Check.taught("barn 8; loft 8; promote 0; hook a; hook b;");
    x.make(0, 2, 1);
    x.copyNow();
    x.make(1, 3, 2);
    x.tie(1, 0, 0);
    x.tie(1, 1, 1);
    x.drop(0);
    x.drop(1);
    Check.due("sweepLoft", x.sweepLoft(), 1);
    long d = 971;
    long[] numbers = {2, 0, 8, 0, 0, 1, 3, 0, 8, 1, 0, 1, 1, 1, 1, 0, 3, 0, 2, 0, 1, 0, 0};
    for (long number : numbers) {
      d = d * 31 + number;
    }
    Check.due("digest", x.digest(), d);
  }

  private static void digests() {
    long d = 971;
    for (long number : new long[] {0, 0, 16, 0, 0, 0, 0, 0, 16, 0, 0, 0, 0, 0, 0}) {
      d = d * 31 + number;
    }
    Check.due("digest of a new barn", new HayBarn().digest(), d);
    HayBarn x = Check.taught("barn 20; loft 9; promote 1; hook a; hook b; hook c; drop c;");
    x.make(0, 2, 1);
    x.make(1, 3, 2);
    x.tie(0, 0, 1);
    x.tie(1, 1, 0);
    x.copyNow();
    x.copyNow();
    x.make(2, 4, 3);
    x.tie(2, 1, 1);
    x.tie(2, 2, 2);
    x.make(0, 5, 1);
    x.tie(0, 0, 2);
    x.drop(2);
    x.work(1);
    d = 971;
    long[] numbers = {
      3, 1, 20, 1, 1, 0, 9, 5, 4, 4, 2, 0, 2, 2, 0,
      0, 4, 0, 3, 0, 103, 1,
      4, 5, 0, 1, 1,
      0, 2, 1, 1, 103,
      2, 3, 1, 2, 0, 101,
      5, 103, 0};
    for (long number : numbers) {
      d = d * 31 + number;
    }
    Check.due("digest", x.digest(), d);
  }
}
