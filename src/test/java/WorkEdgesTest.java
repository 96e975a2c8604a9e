/**
 * The boundary cases of steps, sums and tests, and of promises 9, 10 and 36 to 41: a test for each
 * sentence of the document that names one.
 */
public final class WorkEdgesTest {
  public static void main(String[] args) {
    sumSentences();
    testSentences();
    stepSentences();
    workSentences();
    wouldBeSentences();
    digestSentences();
    Check.end("WorkEdgesTest");
  }

  private static void sumSentences() {
    Check.sentence("sums wrap around in 32 bits", WorkEdgesTest::sumsWrap);
    Check.sentence("differences wrap around in 32 bits", WorkEdgesTest::differencesWrap);
    Check.sentence("products wrap around in 32 bits", WorkEdgesTest::productsWrap);
    Check.sentence("what a - turns wraps around in 32 bits", WorkEdgesTest::turnedWraps);
    Check.sentence("/ is cut towards 0", WorkEdgesTest::cutTowardsZero);
    Check.sentence("/ gives 0 with 0 on the right side", WorkEdgesTest::zeroOnTheRight);
    Check.sentence("-2147483648 / -1 gives -2147483648", WorkEdgesTest::leastByMinusOne);
    Check.sentence("* and / bind more than + and -, from left to right", WorkEdgesTest::binding);
    Check.sentence("min and max", WorkEdgesTest::minAndMax);
    Check.sentence("a bale of the size that the sum tells, at least 1 and at most 9",
        WorkEdgesTest::sizeByStep);
    Check.sentence("the longest sums", WorkEdgesTest::longSums);
  }

  private static void testSentences() {
    Check.sentence("< > = <= >= at equal and next numbers", WorkEdgesTest::relations);
    Check.sentence("step is how many steps went by", WorkEdgesTest::stepInSums);
    Check.sentence("used and free", WorkEdgesTest::usedAndFree);
    Check.sentence("copies", WorkEdgesTest::copies);
    Check.sentence("bales", WorkEdgesTest::bales);
    Check.sentence("size and age (0 if it holds none)", WorkEdgesTest::sizeAndAge);
    Check.sentence("has holds if a hook holds a bale", WorkEdgesTest::has);
    Check.sentence("same if two hooks hold the same one", WorkEdgesTest::same);
    Check.sentence("both sides of and and or are reckoned", WorkEdgesTest::bothSides);
    Check.sentence("and binds more than or", WorkEdgesTest::andMoreThanOr);
    Check.sentence("not more than and", WorkEdgesTest::notMoreThanAnd);
  }

  private static void stepSentences() {
    Check.sentence("from the first one on", WorkEdgesTest::fromFirst);
    Check.sentence("behind the last one the first one comes again", WorkEdgesTest::firstAgain);
    Check.sentence("9. passed over, done or refused: each counts", WorkEdgesTest::eachCounts);
    Check.sentence("10. steps refused, not those passed over or by hand", WorkEdgesTest::refused);
    Check.sentence("make: refused, behind a copying", WorkEdgesTest::makeRefused);
    Check.sentence("make: the size is told ahead of the copying", WorkEdgesTest::makeAhead);
    Check.sentence("make: with so many ropes", WorkEdgesTest::makeRopes);
    Check.sentence("tie: refused, if one of them holds none", WorkEdgesTest::tieNone);
    Check.sentence("tie: refused, if the bale has no such rope", WorkEdgesTest::tieNoRope);
    Check.sentence("untie: refused likewise", WorkEdgesTest::untieRefused);
    Check.sentence("untie: a rope that leads to none already", WorkEdgesTest::untieAgain);
    Check.sentence("follow: refused, if that holds none", WorkEdgesTest::followNone);
    Check.sentence("follow: refused, if it has no such rope", WorkEdgesTest::followNoRope);
    Check.sentence("follow: refused, if it leads to none", WorkEdgesTest::followToNone);
    Check.sentence("drop: refused, if it does so already", WorkEdgesTest::dropRefused);
  }

  private static void workSentences() {
    Check.sentence("36. returns how many are done", WorkEdgesTest::workReturns);
    Check.sentence("36. IllegalArgumentException if steps is not 1 to 100",
        WorkEdgesTest::workNumbers);
    Check.sentence("36. IllegalStateException if no step is told", WorkEdgesTest::workWithout);
    Check.sentence("at most 512 calls", WorkEdgesTest::allCalls);
  }

  private static void wouldBeSentences() {
    Check.sentence("37. 1 for the next one", WorkEdgesTest::untilNext);
    Check.sentence("37. at most 100", WorkEdgesTest::untilHundred);
    Check.sentence("37. -1 if there is none by then", WorkEdgesTest::untilNone);
    Check.sentence("37. -1 without steps", WorkEdgesTest::untilWithout);
    Check.sentence("37. there is a copying by a refused step too", WorkEdgesTest::untilRefused);
    Check.sentence("37. (nothing is changed)", WorkEdgesTest::untilChangesNothing);
    Check.sentence("38. how many places are not empty behind them", WorkEdgesTest::usedAfter);
    Check.sentence("38. IllegalArgumentException if steps is not 1 to 100",
        WorkEdgesTest::usedAfterNumbers);
    Check.sentence("38. IllegalStateException if no step is told", WorkEdgesTest::usedAfterWithout);
    Check.sentence("38. (nothing is changed)", WorkEdgesTest::usedAfterChangesNothing);
    Check.sentence("37. 38. 39. asked first in any state", WorkEdgesTest::askedFirst);
    Check.sentence("37. 38. 39. asked first with all bales there can be",
        WorkEdgesTest::askedFirstOfMany);
    Check.sentence("37. 38. 39. asked first behind another teach", WorkEdgesTest::askedBehindTeach);
    Check.sentence("38. sums and tests are reckoned as they would be",
        WorkEdgesTest::wouldBeReckoned);
    Check.sentence("38. bales gone by a copying that would be leave their places",
        WorkEdgesTest::wouldBeGone);
    Check.sentence("39. behind a copying now", WorkEdgesTest::usedIfCopied);
    Check.sentence("39. without those that would be promoted", WorkEdgesTest::usedIfPromoted);
    Check.sentence("39. (nothing is changed)", WorkEdgesTest::usedIfChangesNothing);
  }

  private static void digestSentences() {
    Check.sentence("40. the mean size of all bales", WorkEdgesTest::meanSize);
    Check.sentence("40. 0 without any", WorkEdgesTest::meanOfNone);
    Check.sentence("41. d starts with 971", WorkEdgesTest::digestOfNew);
    Check.sentence("41. the counts, in their order", WorkEdgesTest::digestOfCounts);
    Check.sentence("41. wraps around as a 64-bit integer", WorkEdgesTest::digestWraps);
    Check.sentence("41. each bale of the half, behind these of the loft, by their places",
        WorkEdgesTest::digestOfBales);
    Check.sentence("41. for each rope 0 if it leads to none", WorkEdgesTest::digestOfRopes);
    Check.sentence("41. and 100 more, if that is in the loft", WorkEdgesTest::digestOfLoft);
    Check.sentence("41. for each hook likewise (0 if it holds none)", WorkEdgesTest::digestOfHooks);
  }

  private static final String LEAST = "(65536*32768)";
  private static final String MOST = "(65536*32768-1)";

  private static void holds(String test) {
    Check.holds(test, true);
  }

  private static void fails(String test) {
    Check.holds(test, false);
  }

  // ---- sums

  private static void sumsWrap() {
    holds(MOST + "+1=" + LEAST);
    holds(MOST + "+1<0");
    holds(MOST + "+" + MOST + "=-2");
    holds(LEAST + "+" + LEAST + "=0");
    holds(LEAST + "+-1=" + MOST);
    holds(MOST + ">0");
    holds(LEAST + "<0");
  }

  private static void differencesWrap() {
    holds(LEAST + "-1=" + MOST);
    holds(LEAST + "-1>0");
    holds("0-" + LEAST + "=" + LEAST);
    holds(MOST + "--1=" + LEAST);
    holds("-2-" + MOST + "=" + MOST);
  }

  private static void productsWrap() {
    holds("65536*65536=0");
    holds("65536*32768<0");
    holds("65536*32767=32767*65536 and 65536*32767>0");
    // 999999 * 999999 is 999998000001, of which the low 32 bits are -729379967.
    holds("999999*999999=-729*1000*1000-379967");
    holds(LEAST + "*-1=" + LEAST);
    holds(LEAST + "*2=0");
    holds(MOST + "*2=-2");
    holds(MOST + "*" + MOST + "=1");
  }

  private static void turnedWraps() {
    holds("-" + LEAST + "=" + LEAST);
    holds("-" + LEAST + "<0");
    holds("--" + LEAST + "=" + LEAST);
    holds("-" + MOST + "-1=" + LEAST);
    holds("-0=0");
  }

  private static void cutTowardsZero() {
    holds("7/2=3");
    holds("-7/2=-3");
    holds("7/-2=-3");
    holds("-7/-2=3");
    holds("1/2=0");
    holds("-1/2=0");
    holds("-(7/2)=-3");
    holds("(0-7)/2=-3");
    holds("0/5=0");
    holds(LEAST + "/2=-65536*16384");
    holds(MOST + "/2=65536*16384-1");
    holds(LEAST + "/" + MOST + "=-1");
    holds(MOST + "/" + LEAST + "=0");
    holds("7/2*2=6");
  }

  private static void zeroOnTheRight() {
    holds("7/0=0");
    holds("-7/0=0");
    holds("0/0=0");
    holds(LEAST + "/0=0");
    holds("7/(3-3)=0");
    holds("7/-0=0");
    holds("7/0/0=0");
    holds("7/(1/0)+2=2");
    Check.sizeBySum("5+7/size of b", 5);
    Check.sizeBySum("7/0", 1);
  }

  private static void leastByMinusOne() {
    holds(LEAST + "/-1=" + LEAST);
    holds(LEAST + "/-1<0");
    holds(LEAST + "/(1-2)=" + LEAST);
    holds("-" + LEAST + "/-1=" + LEAST);
    Check.sizeBySum(LEAST + "/-1", 1);
  }

  private static void binding() {
    holds("1+2*3=7");
    holds("2*3+1=7");
    holds("(1+2)*3=9");
    holds("9-3-2=4");
    holds("9-3+2=8");
    holds("16/4/2=2");
    holds("16/4*2=8");
    holds("2*3/4=1");
    holds("3/4*2=0");
    holds("-2*3=-6");
    holds("-2+3=1");
    holds("-7/2*2=-6");
    holds("1--1=2");
    holds("1- - -1=0");
    holds("10-2*3-8/4=2");
  }

  private static void minAndMax() {
    holds("min(3,7)=3");
    holds("min(7,3)=3");
    holds("max(3,7)=7");
    holds("max(7,3)=7");
    holds("min(5,5)=5 and max(5,5)=5");
    holds("min(-3,2)=-3");
    holds("max(-3,-4)=-3");
    holds("min(" + LEAST + "," + MOST + ")<0");
    holds("max(" + LEAST + "," + MOST + ")>0");
    holds("max(" + MOST + ",-1)=" + MOST);
    holds("-min(1,2)*3=-3");
    holds("max(min(1,2)+1,1)-1=1");
  }

  private static void sizeByStep() {
    int[] sums = {-1, 0, 1, 2, 8, 9, 10, 11, 999999};
    int[] sizes = {1, 1, 1, 2, 8, 9, 9, 9, 9};
    for (int i = 0; i < sums.length; i++) {
      Check.sizeBySum(String.valueOf(sums[i]), sizes[i]);
    }
    Check.sizeBySum(LEAST, 1);
    Check.sizeBySum(MOST, 9);
    Check.sizeBySum(MOST + "+1", 1);
    Check.sizeBySum("256", 9);
    Check.sizeBySum("-256+1", 1);
    HayBarn x = Check.taught("barn 8;hook a;make a size 10 ropes 0;make a size 0 ropes 0;");
    Check.due("9 does not fit in 8, 1 does", x.work(2), 1);
    Check.due("refused", x.stepsRefused(), 1);
    Check.due("copyings", x.copyings(), 1);
  }

  private static void longSums() {
    Check.sizeBySum("1" + "+1".repeat(189) + "-1".repeat(3) + "-180", 7);
    Check.sizeBySum("((((((((1))))))))" + "+((((((((1))))))))".repeat(6), 7);
    Check.sizeBySum("min(9,".repeat(8) + "7" + ")".repeat(8), 7);
    Check.sizeBySum("1+(1+(1+(1+(1+(1+(1+(1+1)))))))-2", 7);
    Check.sizeBySum("2*(2*(2*(2*(2*(2*(2*(2*2)))))))/64-1", 7);
  }

  // ---- tests

  private static void relations() {
    for (int right = 4; right <= 6; right++) {
      Check.holds("5<" + right, 5 < right);
      Check.holds("5>" + right, 5 > right);
      Check.holds("5=" + right, 5 == right);
      Check.holds("5<=" + right, 5 <= right);
      Check.holds("5>=" + right, 5 >= right);
    }
    holds("-1<0");
    holds(LEAST + "<" + MOST);
    holds(MOST + ">=" + LEAST);
    fails(LEAST + ">=" + MOST);
    fails(LEAST + ">" + MOST);
    holds("1+1=2");
    holds("2=1+1");
  }

  private static void stepInSums() {
    HayBarn x = Check.taught("hook a;make a size step ropes 0;drop a when step=1;"
        + "make a size step ropes 0 when step=2 or step=5;");
    x.work(1);
    Check.due("the first one reckons 0, and makes 1", x.sizeOf(0), 1);
    Check.due("the second one", x.work(1), 1);
    Check.due("the third one", x.work(1), 1);
    Check.due("its size", x.sizeOf(0), 2);
    x.work(1);
    Check.due("the fourth one", x.sizeOf(0), 3);
    Check.due("the fifth one is passed over", x.work(1), 0);
    x.make(0, 1, 0);
    x.work(1);
    Check.due("the sixth one", x.sizeOf(0), 5);
  }

  private static void usedAndFree() {
    HayBarn x = Check.taught("barn 8;loft 8;promote 0;hook a;drop a when used=0 and free=8;"
        + "drop a when used=8 and free=0;drop a when used=5 and free=3;");
    x.make(0, 3, 0);
    x.copyNow();
    Check.due("none in the half, three in the loft", x.work(1), 1);
    x.make(0, 8, 0);
    Check.due("a full half", x.work(1), 1);
    x.copyNow();
    x.make(0, 2, 0);
    x.make(0, 3, 0);
    Check.due("useless ones are used places too", x.work(1), 1);
  }

  private static void copies() {
    HayBarn x = Check.taught("hook a;make a size 1 ropes 0 when copies=0;drop a when copies=1;"
        + "make a size 1 ropes 0 when copies>=1;");
    Check.due("0 at first", x.work(1), 1);
    x.copyNow();
    Check.due("1 behind one", x.work(1), 1);
    x.sweepLoft();
    x.copyNow();
    Check.due("2 behind two", x.work(1), 1);
    Check.due("it is not 0 then", x.work(1), 0);
  }

  private static void bales() {
    HayBarn x = Check.taught("loft 2;promote 0;hook a;make a size 2 ropes 0 when bales=0;"
        + "drop a when bales=1;make a size 1 ropes 0 when bales=1;"
            + "make a size 1 ropes 0 when bales=2;"
        + "drop a when bales=3;");
    Check.due("0 at first", x.work(1), 1);
    x.copyNow();
    Check.due("1 in the loft", x.work(1), 1);
    Check.due("a useless one counts", x.work(1), 1);
    Check.due("one in each", x.work(1), 1);
    Check.due("two of them useless", x.work(1), 1);
  }

  private static void sizeAndAge() {
    holds("size of c=0");
    holds("age of c=0");
    holds("size of a=2 and size of b=3");
    holds("age of a=0");
    HayBarn x = Check.taught("loft 0;hook a;hook b;drop a when size of a=9 and age of a=3;"
        + "drop b when size of a=0 and age of a=0 and size of b=1 and age of b=1;");
    x.make(0, 9, 0);
    x.copyNow();
    x.copyNow();
    x.make(1, 1, 0);
    x.copyNow();
    Check.due("a", x.work(1), 1);
    Check.due("b, and a without a bale", x.work(1), 1);
  }

  private static void has() {
    holds("has a");
    fails("has c");
    fails("not has a");
    holds("not has c");
  }

  private static void same() {
    holds("same a a");
    fails("same a b");
    fails("same a c");
    fails("same c a");
    fails("same c c");
    holds("not same c c");
    String six = "hook a;hook b;hook c;hook d;hook e;hook f;";
    HayBarn x = Check.taught(six + "drop f when same a f;drop a when same f a;"
        + "drop e when same e a;");
    x.make(0, 1, 1);
    x.tie(0, 0, 0);
    x.follow(5, 0, 0);
    x.follow(4, 0, 0);
    Check.due("a f", x.work(1), 1);
    Check.due("f holds none", x.work(1), 0);
    Check.due("e a", x.work(1), 1);
  }

  private static void bothSides() {
    holds("1=1 or 1/0=1");
    holds("1/0=1 or 1=1");
    fails("1=2 and 1/0=0");
    fails("1/0=0 and 1=2");
    fails("has c and size of c/size of c=1");
    for (int a = 0; a < 2; a++) {
      for (int b = 0; b < 2; b++) {
        Check.holds("1=" + a + " and 1=" + b, a == 1 && b == 1);
        Check.holds("1=" + a + " or 1=" + b, a == 1 || b == 1);
      }
    }
  }

  private static void andMoreThanOr() {
    for (int bits = 0; bits < 8; bits++) {
      boolean a = (bits & 1) != 0;
      boolean b = (bits & 2) != 0;
      boolean c = (bits & 4) != 0;
      String x = a ? "1=1" : "1=2";
      String y = b ? "has a" : "has c";
      String z = c ? "same b b" : "same a b";
      Check.holds(x + " or " + y + " and " + z, a || b && c);
      Check.holds(x + " and " + y + " or " + z, a && b || c);
      Check.holds("[" + x + " or " + y + "] and " + z, (a || b) && c);
      Check.holds(x + " and [" + y + " or " + z + "]", a && (b || c));
      Check.holds(x + " and " + y + " and " + z, a && b && c);
      Check.holds(x + " or " + y + " or " + z, a || b || c);
    }
  }

  private static void notMoreThanAnd() {
    for (int bits = 0; bits < 4; bits++) {
      boolean a = (bits & 1) != 0;
      boolean b = (bits & 2) != 0;
      String x = a ? "1=1" : "1=2";
      String y = b ? "has a" : "has c";
      Check.holds("not " + x + " and " + y, !a && b);
      Check.holds("not " + x + " or " + y, !a || b);
      Check.holds("not [" + x + " and " + y + "]", !(a && b));
      Check.holds("not [" + x + " or " + y + "]", !(a || b));
      Check.holds(x + " and not " + y, a && !b);
      Check.holds("not not " + x + " and not not not " + y, a && !b);
    }
  }

  // ---- steps

  private static void fromFirst() {
    HayBarn x = Check.taught("hook a;make a size 1 ropes 0;make a size 2 ropes 0;");
    x.work(1);
    Check.due("the first one", x.sizeOf(0), 1);
    x.make(0, 9, 0);
    x.copyNow();
    x.work(1);
    Check.due("hands do not count as steps", x.sizeOf(0), 2);
  }

  private static void firstAgain() {
    for (int steps = 1; steps <= 9; steps++) {
      StringBuilder text = new StringBuilder("barn 64;hook a;");
      for (int step = 1; step <= steps; step++) {
        text.append("make a size ").append(step).append(" ropes 0;");
      }
      HayBarn x = Check.taught(text.toString());
      for (int gone = 0; gone < 3 * steps + 1; gone++) {
        x.work(1);
        Check.due("step " + gone + " of " + steps, x.sizeOf(0), gone % steps + 1);
      }
    }
    String drops = "drop a;".repeat(19);
    HayBarn y = Check.taught("barn 64;hook a;" + drops + "make a size 1 ropes 0;");
    Check.due("twenty steps", y.work(20), 1);
    Check.due("the first one again", y.work(1), 1);
    Check.due("all but the first and the last", y.work(18) * 10 + y.work(1), 1);
    Check.due("five times round", y.work(100), 10);
  }

  private static void eachCounts() {
    HayBarn x = Check.taught("hook a;drop a when 1=2;drop a;make a size 1 ropes 0;");
    x.work(1);
    Check.due("passed over", x.stepsGoneBy(), 1);
    x.work(1);
    Check.due("refused", x.stepsGoneBy(), 2);
    x.work(1);
    Check.due("done", x.stepsGoneBy(), 3);
    x.work(100);
    Check.due("a hundred", x.stepsGoneBy(), 103);
    x.make(0, 1, 0);
    x.drop(0);
    x.usedAfter(100);
    x.stepsUntilCopying();
    Check.due("hands and asking do not", x.stepsGoneBy(), 103);
  }

  private static void refused() {
    HayBarn x = Check.taught("hook a;drop a when 1=2;drop a;make a size 1 ropes 0;drop a;");
    x.work(1);
    Check.due("passed over", x.stepsRefused(), 0);
    x.work(1);
    Check.due("refused", x.stepsRefused(), 1);
    x.work(2);
    Check.due("done", x.stepsRefused(), 1);
    Check.noState("drop", () -> x.drop(0));
    Check.noState("tie", () -> x.tie(0, 0, 0));
    Check.noState("follow", () -> x.follow(0, 0, 0));
    x.make(0, 9, 0);
    Check.noState("make", () -> x.make(0, 8, 0));
    Check.due("refused by hand", x.stepsRefused(), 1);
    x.usedAfter(100);
    Check.due("asked", x.stepsRefused(), 1);
  }

  private static void makeRefused() {
    HayBarn x = Check.taught("barn 8;hook a;hook b;make a size 5 ropes 0;make b size 4 ropes 0;"
        + "make b size 3 ropes 0;");
    Check.due("5", x.work(1), 1);
    Check.due("4 more are one too many", x.work(1), 0);
    Check.due("refused", x.stepsRefused(), 1);
    Check.due("copyings", x.copyings(), 1);
    Check.due("b", x.holdsBale(1), false);
    Check.due("age of a", x.ageOf(0), 1);
    Check.due("3 more are not", x.work(1), 1);
    Check.due("copyings behind", x.copyings(), 1);
    Check.due("place of b", x.placeOf(1), 5);
  }

  private static void makeAhead() {
    HayBarn x = Check.taught("barn 8;hook a;make a size 3+copies*9 ropes 0;drop a;");
    x.make(0, 6, 0);
    x.drop(0);
    Check.due("work", x.work(1), 1);
    Check.due("copyings", x.copyings(), 1);
    Check.due("sizeOf", x.sizeOf(0), 3);
    HayBarn y = Check.taught("barn 8;hook a;make a size used ropes 0;");
    y.make(0, 5, 0);
    y.drop(0);
    y.work(1);
    Check.due("the places used ahead of the copying", y.sizeOf(0), 5);
    Check.due("its place", y.placeOf(0), 0);
  }

  private static void makeRopes() {
    for (int ropes = 0; ropes <= 3; ropes++) {
      HayBarn x = Check.taught("hook a;make a size 1 ropes " + ropes + ";");
      x.work(1);
      Check.due("ropesOf", x.ropesOf(0), ropes);
    }
  }

  /** Does one step that is refused: nothing but the counts of steps is changed. */
  private static void refusedStep(HayBarn x, String what) {
    long digest = x.digest();
    int refused = x.stepsRefused();
    int gone = x.stepsGoneBy();
    Check.due("work of " + what, x.work(1), 0);
    Check.due("refused " + what, x.stepsRefused(), refused + 1);
    Check.due("went by, " + what, x.stepsGoneBy(), gone + 1);
    // Both counts are 1 more; behind that of refused ones 18 numbers follow, with one bale of
    // two ropes and two hooks.
    long more = 1;
    for (int i = 0; i < 18; i++) {
      more *= 31;
    }
    Check.due("digest behind " + what, x.digest(), digest + more + more * 31);
  }

  /** Hook a holds a bale of two ropes, of which rope 0 leads to itself; b holds none. */
  private static HayBarn oneHeld(String step) {
    HayBarn x = Check.taught("hook a;hook b;" + step + ";");
    x.make(0, 1, 2);
    x.tie(0, 0, 0);
    return x;
  }

  private static void tieNone() {
    HayBarn x = oneHeld("tie a rope 1 to b");
    refusedStep(x, "tie to none");
    Check.due("rope 1", x.ropeLeads(0, 1), false);
    HayBarn y = oneHeld("tie a rope 0 to b");
    refusedStep(y, "tie to none again");
    Check.due("rope 0 leads where it led", y.ropeLeads(0, 0), true);
    refusedStep(oneHeld("tie b rope 0 to a"), "tie of none");
    refusedStep(oneHeld("tie b rope 0 to b"), "tie of none to none");
  }

  private static void tieNoRope() {
    refusedStep(oneHeld("tie a rope 2 to a"), "tie of rope 2");
    refusedStep(oneHeld("tie a rope 3 to a"), "tie of rope 3");
    HayBarn x = oneHeld("tie a rope 1 to a");
    Check.due("rope 1", x.work(1), 1);
    Check.due("it leads", x.ropeLeads(0, 1), true);
  }

  private static void untieRefused() {
    refusedStep(oneHeld("untie b rope 0"), "untie of none");
    refusedStep(oneHeld("untie a rope 2"), "untie of rope 2");
    refusedStep(oneHeld("untie a rope 3"), "untie of rope 3");
    HayBarn x = oneHeld("untie a rope 0");
    Check.due("rope 0", x.work(1), 1);
    Check.due("it leads to none", x.ropeLeads(0, 0), false);
  }

  private static void untieAgain() {
    HayBarn x = oneHeld("untie a rope 1");
    Check.due("it is done", x.work(1), 1);
    Check.due("not refused", x.stepsRefused(), 0);
    Check.due("rope 1", x.ropeLeads(0, 1), false);
    Check.due("rope 0", x.ropeLeads(0, 0), true);
  }

  private static void followNone() {
    HayBarn x = oneHeld("follow a by b rope 0");
    refusedStep(x, "follow none");
    Check.due("a holds the old one", x.holdsBale(0), true);
    refusedStep(oneHeld("follow b by b rope 0"), "follow none by itself");
    HayBarn y = oneHeld("follow b by a rope 0");
    Check.due("a hook that holds none follows", y.work(1), 1);
    Check.due("holdSame", y.holdSame(0, 1), true);
  }

  private static void followNoRope() {
    refusedStep(oneHeld("follow a by a rope 2"), "follow rope 2");
    refusedStep(oneHeld("follow b by a rope 3"), "follow rope 3");
  }

  private static void followToNone() {
    HayBarn x = oneHeld("follow a by a rope 1");
    refusedStep(x, "follow rope 1");
    Check.due("a holds the old one", x.holdsBale(0), true);
    HayBarn y = oneHeld("follow a by a rope 0");
    Check.due("follow to itself", y.work(1), 1);
    Check.due("a", y.placeOf(0), 0);
  }

  private static void dropRefused() {
    refusedStep(oneHeld("drop b"), "drop of none");
    HayBarn x = oneHeld("drop a");
    Check.due("drop", x.work(1), 1);
    refusedStep(x, "drop again");
  }

  // ---- work

  private static void workReturns() {
    HayBarn x = Check.taught("barn 64;hook a;make a size 1 ropes 0;drop a;drop a;"
        + "drop a when has a;");
    Check.due("all done", x.work(2), 2);
    Check.due("one refused, one passed over", x.work(2), 0);
    Check.due("half of a hundred", x.work(100), 50);
    Check.due("refused", x.stepsRefused(), 26);
    HayBarn y = Check.taught("barn 64;hook a;make a size 1 ropes 0;");
    Check.due("all of a hundred", y.work(100), 100);
    Check.due("bales", y.copyings(), 1);
  }

  private static void workNumbers() {
    HayBarn x = Check.taught("hook a;drop a;");
    for (int steps : new int[] {0, -1, 101, 102, 256, 65537,
        Integer.MIN_VALUE, Integer.MAX_VALUE}) {
      Check.refused(x, "work " + steps, IllegalArgumentException.class, () -> x.work(steps));
    }
    Check.due("work 1", x.work(1), 0);
    Check.due("one went by", x.stepsGoneBy(), 1);
    Check.due("work 100", x.work(100), 0);
    Check.due("a hundred more", x.stepsGoneBy(), 101);
  }

  private static void workWithout() {
    HayBarn x = Check.taught("hook a;");
    x.make(0, 1, 1);
    for (int steps : new int[] {1, 2, 99, 100}) {
      Check.refused(x, "work " + steps, IllegalStateException.class, () -> x.work(steps));
      Check.noState("work of a new object", () -> new HayBarn().work(steps));
    }
  }

  private static void allCalls() {
    HayBarn x = new HayBarn();
    x.feed(0x686f6f6b, 0x20613b64, 0x726f7020, 0x613b2020, 0x20202020);
    Check.due("teach of hook a;drop a;", x.teach(), 0);
    for (int call = 3; call <= 510; call++) {
      Check.due("work, call " + call, x.work(100), 0);
    }
    Check.due("stepsGoneBy", x.stepsGoneBy(), 50800);
    Check.due("stepsRefused", x.stepsRefused(), 50800);
  }

  // ---- what would be

  private static void untilNext() {
    HayBarn x = Check.taught("barn 8;hook a;make a size 4 ropes 0;drop a;");
    x.work(3);
    Check.due("one passes", x.stepsUntilCopying(), 2);
    x.work(1);
    Check.due("the next one", x.stepsUntilCopying(), 1);
    x.work(1);
    Check.due("there it was", x.copyings(), 1);
    Check.due("4, then 8, then the next one", x.stepsUntilCopying(), 4);
  }

  private static void untilHundred() {
    HayBarn x = Check.taught("barn 8;hook a;make a size 8 ropes 0 when step=0 or step>=101;");
    x.work(1);
    Check.due("the 101st", x.stepsUntilCopying(), -1);
    x.work(1);
    Check.due("the 100th", x.stepsUntilCopying(), 100);
    x.work(1);
    Check.due("the 99th", x.stepsUntilCopying(), 99);
    x.work(98);
    Check.due("the next one", x.stepsUntilCopying(), 1);
  }

  private static void untilNone() {
    HayBarn x = Check.taught("hook a;drop a;");
    Check.due("at first", x.stepsUntilCopying(), -1);
    x.copyNow();
    Check.due("behind a copying by hand", x.stepsUntilCopying(), -1);
    HayBarn y = Check.taught("barn 8;hook a;make a size 9 ropes 0 when 1=2;");
    Check.due("one that is passed over", y.stepsUntilCopying(), -1);
    HayBarn z = Check.taught("barn 64;hook a;make a size 1 ropes 0 when step<64;");
    Check.due("just as many as there are places", z.stepsUntilCopying(), -1);
  }

  private static void untilWithout() {
    Check.due("a new object", new HayBarn().stepsUntilCopying(), -1);
    HayBarn x = Check.taught("barn 8;hook a;");
    x.make(0, 8, 0);
    x.copyNow();
    Check.due("a full half", x.stepsUntilCopying(), -1);
  }

  private static void untilRefused() {
    HayBarn x = Check.taught("barn 8;hook a;make a size 9 ropes 0;");
    Check.due("at first", x.stepsUntilCopying(), 1);
    x.work(3);
    Check.due("behind three", x.stepsUntilCopying(), 1);
    Check.due("each of them", x.copyings(), 3);
  }

  /** A barn in which steps change all that can be changed. */
  private static HayBarn busy() {
    HayBarn x = Check.taught("barn 12;loft 6;promote 1;hook a;hook b;make a size 1+step ropes 2;"
        + "tie a rope 0 to b;tie a rope 1 to a;follow b by a rope 1 when step>4;drop a;drop a;");
    x.make(1, 2, 1);
    return x;
  }

  private static void untilChangesNothing() {
    HayBarn x = busy();
    for (int i = 0; i < 30; i++) {
      long digest = x.digest();
      int until = x.stepsUntilCopying();
      Check.due("digest", x.digest(), digest);
      Check.due("asked again", x.stepsUntilCopying(), until);
      int copyings = x.copyings();
      x.work(1);
      Check.due("it came with the next one", x.copyings() != copyings, until == 1);
    }
  }

  private static void usedAfter() {
    HayBarn x = Check.taught("barn 8;loft 4;hook a;make a size 4 ropes 0;drop a;");
    int[] due = {4, 4, 8, 8, 4, 4, 8, 8, 4};
    for (int steps = 1; steps <= due.length; steps++) {
      Check.due("usedAfter " + steps, x.usedAfter(steps), due[steps - 1]);
    }
    Check.due("usedAfter 100", x.usedAfter(100), 8);
    Check.due("usedAfter 97", x.usedAfter(97), 4);
    HayBarn y = busy();
    for (int i = 0; i < 30; i++) {
      int used = y.usedAfter(7);
      HayBarn twin = busy();
      for (int gone = 0; gone < i + 7; gone++) {
        twin.work(1);
      }
      Check.due("as behind the steps, " + i, used, twin.usedPlaces());
      y.work(1);
    }
  }

  private static void usedAfterNumbers() {
    HayBarn x = Check.taught("hook a;drop a;");
    for (int steps : new int[] {0, -1, 101, 102, 256, 65537,
        Integer.MIN_VALUE, Integer.MAX_VALUE}) {
      Check.refused(x, "usedAfter " + steps, IllegalArgumentException.class,
          () -> x.usedAfter(steps));
    }
    Check.due("usedAfter 1", x.usedAfter(1), 0);
    Check.due("usedAfter 100", x.usedAfter(100), 0);
  }

  private static void usedAfterWithout() {
    HayBarn x = Check.taught("hook a;");
    x.make(0, 1, 1);
    for (int steps : new int[] {1, 2, 99, 100}) {
      Check.refused(x, "usedAfter " + steps, IllegalStateException.class,
          () -> x.usedAfter(steps));
      Check.noState("usedAfter of a new object", () -> new HayBarn().usedAfter(steps));
    }
  }

  private static void usedAfterChangesNothing() {
    HayBarn x = busy();
    for (int i = 0; i < 30; i++) {
      long digest = x.digest();
      int later = x.usedAfter(100);
      Check.due("digest", x.digest(), digest);
      Check.due("asked again", x.usedAfter(100), later);
      int used = x.usedAfter(1);
      x.work(1);
      Check.due("it came so", x.usedPlaces(), used);
    }
  }

  /** Loft, half and steps that ask for all that there is; so many steps went by. */
  private static HayBarn rich(int steps) {
    HayBarn x = Check.taught("barn 14;loft 7;promote 1;hook a;hook b;hook c;"
        + "make a size 2+age of b ropes 2;tie a rope 0 to b;follow c by a rope 0 when bales>2;"
        + "make b size 1+copies ropes 1 when free>3 or bales=4;tie b rope 0 to a when not has c;"
        + "drop a when step>9 and used>5;untie c rope 0 when size of c=2;drop c when age of c=1;");
    x.make(1, 3, 1);
    for (int i = 0; i < steps; i++) {
      x.work(1);
      if (i % 23 == 22) {
        x.sweepLoft();
      }
    }
    return x;
  }

  private static void askedFirst() {
    for (int steps = 0; steps < 60; steps++) {
      HayBarn done = rich(steps);
      int copyings = done.copyings();
      int first = -1;
      for (int i = 1; i <= 100; i++) {
        done.work(1);
        first = first < 0 && done.copyings() > copyings ? i : first;
        Check.due("usedAfter " + i + " of " + steps, rich(steps).usedAfter(i), done.usedPlaces());
      }
      Check.due("stepsUntilCopying of " + steps, rich(steps).stepsUntilCopying(), first);
      HayBarn copied = rich(steps);
      copied.copyNow();
      Check.due("usedIfCopied of " + steps, rich(steps).usedIfCopied(), copied.usedPlaces());
    }
  }

  /** A full loft at whose last place one leads to a chain through all of a full half. */
  private static HayBarn many() {
    HayBarn x = Check.taught("barn 64;loft 64;promote 0;hook a;hook b;make a size 1 ropes 0;"
        + "drop b when bales=128;");
    for (int i = 0; i < 64; i++) {
      x.make(i % 2, 1, 3);
      if (i > 0) {
        x.tie(i % 2, 0, 1 - i % 2);
      }
    }
    x.copyNow();
    for (int i = 0; i < 63; i++) {
      x.follow(1, 1, 0);
    }
    for (int i = 0; i < 64; i++) {
      x.make(i % 2, 1, 3);
      x.tie(1 - i % 2, 1, i % 2);
    }
    return x;
  }

  private static void askedFirstOfMany() {
    HayBarn x = many();
    Check.due("bales", x.bales(), 128);
    x.drop(0);
    x.drop(1);
    Check.due("all are useless", x.uselessBales(), 128);
    Check.due("usedIfCopied", x.usedIfCopied(), 64);
    Check.due("none would be gone", x.copyNow(), 0);
    HayBarn y = many();
    Check.due("usedAfter", y.usedAfter(1), 64);
    HayBarn z = many();
    Check.due("stepsUntilCopying", z.stepsUntilCopying(), 1);
    HayBarn w = many();
    w.work(1);
    Check.due("refused", w.stepsRefused(), 1);
    Check.due("128 are told to the next step", w.work(1), 1);
  }

  /** One step of what would be, done only if the test holds. */
  private static void wouldHold(String test) {
    for (int not = 0; not < 2; not++) {
      HayBarn x = Check.taught("barn 20;loft 4;promote 1;hook a;hook b;hook c;hook d;drop d;"
          + "make d size 5 ropes 0 when " + (not == 0 ? test : "not [" + test + "]") + ";");
      x.make(0, 3, 2);
      x.make(1, 6, 2);
      x.copyNow();
      x.copyNow();
      x.tie(0, 0, 0);
      x.follow(2, 0, 0);
      x.make(3, 2, 0);
      x.work(1);
      Check.due("usedAfter when " + not + test, x.usedAfter(1), not == 0 ? 13 : 8);
    }
  }

  private static void wouldBeReckoned() {
    wouldHold("step=1");
    wouldHold("used=8");
    wouldHold("free=12");
    wouldHold("copies=2");
    wouldHold("bales=3");
    wouldHold("size of a=3 and size of b=6");
    wouldHold("age of a=1 and age of b=2");
    wouldHold("has a and has b and has c and not has d");
    wouldHold("same a c and same c a and not same a b and not same a d");
  }

  /** The loft is full of bales that are held by a chain, the half of useless ones. */
  private static void wouldBeGone() {
    String text = "barn 64;loft 64;promote 0;hook a;hook b;make b size 1 ropes 0;";
    for (int steps = 1; steps <= 66; steps++) {
      HayBarn x = Check.taught(text);
      for (int i = 0; i < 64; i++) {
        x.make(1, 1, 2);
        x.tie(1, 1, 1);
        if (i > 0) {
          x.tie(1, 0, 0);
        }
        x.follow(0, 1, 1);
      }
      x.copyNow();
      for (int i = 0; i < 64; i++) {
        x.make(1, 1, 2);
      }
      x.drop(1);
      Check.due("bales", x.bales(), 128);
      Check.due("usedAfter " + steps, x.usedAfter(steps), steps <= 64 ? steps : steps - 63);
      Check.due("usedPlaces", x.usedPlaces(), 64);
    }
  }

  private static void askedBehindTeach() {
    HayBarn x = rich(31);
    x.usedAfter(50);
    x.usedIfCopied();
    Check.due("teach", Check.teach(x, "barn 9;loft 0;hook a;make a size 4 ropes 0;drop a;"), 0);
    Check.due("usedAfter", x.usedAfter(3), 8);
    Check.due("stepsUntilCopying", x.stepsUntilCopying(), 5);
    Check.due("usedIfCopied", x.usedIfCopied(), 0);
    Check.due("teach without steps", Check.teach(x, "hook a;"), 0);
    Check.due("stepsUntilCopying without", x.stepsUntilCopying(), -1);
    Check.noState("usedAfter without", () -> x.usedAfter(1));
  }

  private static void usedIfCopied() {
    Check.due("nothing", new HayBarn().usedIfCopied(), 0);
    HayBarn x = Check.taught("barn 64;loft 0;hook a;hook b;");
    x.make(0, 2, 1);
    Check.due("one", x.usedIfCopied(), 2);
    x.make(1, 3, 1);
    x.tie(0, 0, 1);
    Check.due("two", x.usedIfCopied(), 5);
    x.drop(1);
    Check.due("by a rope", x.usedIfCopied(), 5);
    x.drop(0);
    Check.due("none is reached", x.usedIfCopied(), 0);
    Check.due("usedPlaces", x.usedPlaces(), 5);
    for (int i = 0; i < 59; i++) {
      x.make(0, 1, 0);
    }
    Check.due("a full half", x.usedIfCopied(), 1);
  }

  private static void usedIfPromoted() {
    HayBarn x = Check.taught("barn 20;loft 3;promote 1;hook a;hook b;");
    x.make(0, 3, 1);
    x.make(1, 2, 0);
    Check.due("too young", x.usedIfCopied(), 5);
    x.copyNow();
    Check.due("a would be promoted, and leave no gap", x.usedIfCopied(), 2);
    x.copyNow();
    Check.due("it is", x.usedPlaces(), 2);
    Check.due("the same again", x.usedIfCopied(), 2);
    x.tie(0, 0, 1);
    x.drop(1);
    x.drop(0);
    Check.due("a useless one of the loft keeps it", x.usedIfCopied(), 2);
    x.sweepLoft();
    Check.due("none", x.usedIfCopied(), 0);
  }

  private static void usedIfChangesNothing() {
    HayBarn x = busy();
    for (int i = 0; i < 30; i++) {
      long digest = x.digest();
      int used = x.usedIfCopied();
      Check.due("digest", x.digest(), digest);
      Check.due("asked again", x.usedIfCopied(), used);
      x.work(1);
      used = x.usedIfCopied();
      x.copyNow();
      Check.due("it came so", x.usedPlaces(), used);
    }
  }

  // ---- mean and digest

  private static void meanSize() {
    HayBarn x = Check.taught("barn 20;loft 3;promote 0;hook a;hook b;");
    x.make(0, 3, 0);
    Check.due("one", x.meanSize(), 3.0);
    x.make(1, 4, 0);
    Check.due("two", x.meanSize(), 3.5);
    x.copyNow();
    Check.due("one in the loft", x.meanSize(), 3.5);
    x.make(1, 1, 0);
    Check.due("a useless one too", x.meanSize(), 8.0 / 3.0);
    x.drop(0);
    x.sweepLoft();
    Check.due("behind a sweep", x.meanSize(), 2.5);
    x.copyNow();
    Check.due("behind a copying", x.meanSize(), 1.0);
  }

  private static void meanOfNone() {
    HayBarn x = Check.taught("hook a;");
    Check.due("at first", x.meanSize(), 0.0);
    x.make(0, 5, 0);
    x.drop(0);
    Check.due("a useless one", x.meanSize(), 5.0);
    x.copyNow();
    Check.due("none again", x.meanSize(), 0.0);
  }

  private static long digestBy(int... numbers) {
    long d = 971;
    for (int number : numbers) {
      d = d * 31 + number;
    }
    return d;
  }

  private static void digestOfNew() {
    long due = digestBy(0, 0, 16, 0, 0, 0, 0, 0, 16, 0, 0, 0, 0, 0, 0);
    Check.due("a new object", new HayBarn().digest(), due);
    Check.due("other numbers", Check.taught("barn 8;loft 0;").digest(),
        digestBy(0, 0, 8, 0, 0, 0, 0, 0, 0, 0, 0, 0, 0, 0, 0));
  }

  private static void digestOfCounts() {
    for (int steps = 0; steps < 60; steps++) {
      HayBarn x = rich(steps);
      for (int hook = 0; hook < 3; hook++) {
        if (x.holdsBale(hook)) {
          x.drop(hook);
        }
      }
      x.sweepLoft();
      x.copyNow();
      Check.due("no bale is left", x.bales(), 0);
      Check.due("digest of the counts", x.digest(), digestBy(x.hooks(), x.steps(),
          x.placesOfHalf(), x.stepsGoneBy(), x.stepsRefused(), x.workingHalf(), x.usedPlaces(),
          x.usedInLoft(), x.longestGap(), x.bales(), x.balesInLoft(), x.uselessBales(),
          x.copyings(), x.balesPromoted(), x.balesGone(), 0, 0, 0));
    }
    HayBarn y = Check.taught("barn 24;loft 12;promote 0;hook a;drop a;drop a when 1=2;");
    y.make(0, 3, 0);
    y.copyNow();
    y.make(0, 4, 0);
    y.make(0, 2, 0);
    y.work(4);
    Check.due("all counts but one are other numbers", y.digest(), digestBy(1, 2, 24, 4, 1, 1, 6, 3,
        9, 3, 1, 3, 1, 1, 0, 0, 4, 0, 0, 4, 2, 0, 0, 0, 3, 0, 0, 0));
  }

  private static void digestWraps() {
    java.math.BigInteger d = java.math.BigInteger.valueOf(971);
    int[] numbers = {6, 0, 64, 0, 0, 0, 0, 0, 64, 0, 0, 0, 0, 0, 0, 0, 0, 0, 0, 0, 0};
    for (int number : numbers) {
      d = d.multiply(java.math.BigInteger.valueOf(31)).add(java.math.BigInteger.valueOf(number));
    }
    HayBarn x = Check.taught("barn 64;loft 64;hook a;hook b;hook c;hook d;hook e;hook f;");
    Check.due("it is more than 64 bits", d.bitLength() > 64, true);
    Check.due("their low 64 bits", x.digest(), d.longValue());
  }

  private static void digestOfBales() {
    HayBarn x = Check.taught("barn 20;loft 7;promote 0;hook a;hook b;hook c;");
    x.make(0, 1, 0);
    x.make(1, 2, 0);
    x.copyNow();
    x.drop(0);
    x.sweepLoft();
    x.make(0, 1, 0);
    x.make(2, 4, 0);
    x.copyNow();
    x.make(0, 9, 0);
    x.make(2, 8, 0);
    x.drop(0);
    x.drop(1);
    x.drop(2);
    Check.due("useless ones too", x.digest(),
        digestBy(3, 0, 20, 0, 0, 0, 17, 7, 0, 5, 3, 5, 2, 4, 1,
        0, 9, 0, 0, 9, 8, 0, 0,
        0, 1, 0, 0, 1, 2, 0, 0, 3, 4, 0, 0,
        0, 0, 0));
  }

  private static void digestOfRopes() {
    HayBarn x = Check.taught("barn 20;loft 0;hook a;hook b;");
    x.make(0, 1, 3);
    x.make(1, 2, 1);
    x.tie(0, 0, 0);
    x.tie(0, 2, 1);
    Check.due("0, 1 and its place", x.digest(),
        digestBy(2, 0, 20, 0, 0, 0, 3, 0, 0, 2, 0, 0, 0, 0, 0,
        0, 1, 0, 3, 1, 0, 2,
        1, 2, 0, 1, 0,
        1, 2));
  }

  private static void digestOfLoft() {
    HayBarn x = Check.taught("barn 20;loft 5;promote 0;hook a;hook b;hook c;");
    x.make(0, 2, 1);
    x.make(1, 3, 2);
    x.tie(0, 0, 1);
    x.tie(1, 0, 0);
    x.copyNow();
    x.make(2, 4, 2);
    x.tie(2, 0, 0);
    x.tie(2, 1, 1);
    x.tie(1, 1, 2);
    Check.due("101 and its place", x.digest(),
        digestBy(3, 0, 20, 0, 0, 1, 4, 5, 0, 3, 2, 0, 1, 2, 0,
        0, 4, 0, 2, 101, 103,
        0, 2, 0, 1, 103,
        2, 3, 0, 2, 101, 1,
        101, 103, 1));
  }

  private static void digestOfHooks() {
    HayBarn x = Check.taught("barn 20;loft 1;promote 0;hook a;hook b;hook c;hook d;");
    x.make(1, 1, 0);
    x.copyNow();
    x.make(2, 2, 0);
    x.make(3, 2, 0);
    Check.due("none, the loft, the half", x.digest(),
        digestBy(4, 0, 20, 0, 0, 1, 4, 1, 0, 3, 1, 0, 1, 1, 0,
        0, 2, 0, 0, 2, 2, 0, 0,
        0, 1, 0, 0,
        0, 101, 1, 3));
  }
}
