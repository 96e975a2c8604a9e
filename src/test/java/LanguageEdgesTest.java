/**
 * The boundary cases of '1. The language' and of promises 1 to 8: a test for each sentence of the
 * document that names one. A @ in a text shows where its error is.
 */
public final class LanguageEdgesTest {
  private static final int BLANKS = 0x20202020;
  private static final String[] KEYWORDS = {"barn", "loft", "promote", "hook", "make", "size",
      "ropes", "tie", "rope", "to", "untie", "follow", "by", "of", "drop", "when", "step", "used",
      "free", "copies", "bales", "age", "has", "same", "not", "and", "or", "min", "max"};
  private static final String SIX = "hook a;hook b;hook c;hook d;hook e;hook f;";
  private static final String TWENTY = "drop a;".repeat(20);

  public static void main(String[] args) {
    tapeSentences();
    teachSentences();
    tokenSentences();
    grammarSentences();
    firstErrorSentences();
    laterErrorSentences();
    toldSentences();
    Check.end("LanguageEdgesTest");
  }

  private static void tapeSentences() {
    Check.sentence("1. an empty barn without hooks and steps", LanguageEdgesTest::newObject);
    Check.sentence("the tape is at first empty", LanguageEdgesTest::tapeAtFirst);
    Check.sentence("2. the four bytes of each number, the highest one first",
        LanguageEdgesTest::feedPositions);
    Check.sentence("2. returns the number of bytes of the tape", LanguageEdgesTest::feedReturns);
    Check.sentence("at most 2000 bytes", LanguageEdgesTest::fullTape);
    Check.sentence("2. IllegalStateException if there would be more than 2000",
        LanguageEdgesTest::feedTooMuch);
    Check.sentence("3. shortens the tape to its first bytes", LanguageEdgesTest::trimKeepsFirst);
    Check.sentence("3. what is cut off is not read", LanguageEdgesTest::cutOff);
    Check.sentence("3. returns n", LanguageEdgesTest::trimReturns);
    Check.sentence("3. IllegalArgumentException if n is not 0 to the number of bytes",
        LanguageEdgesTest::trimWrong);
  }

  private static void teachSentences() {
    Check.sentence("4. returns 0, or the error, 1 to 5", LanguageEdgesTest::teachReturns);
    Check.sentence("4. in the place of all that was told before", LanguageEdgesTest::teachReplaces);
    Check.sentence("4. told again and again, with errors between",
        LanguageEdgesTest::teachAgainAndAgain);
    Check.sentence("4. long texts again and again", LanguageEdgesTest::teachLongTexts);
    Check.sentence("4. all begins anew, without bales", LanguageEdgesTest::teachBeginsAnew);
    Check.sentence("4. without bales, again and again", LanguageEdgesTest::teachWithoutBales);
    Check.sentence("4. if it has an error, all stays", LanguageEdgesTest::errorsKeepAll);
    Check.sentence("4. but the tape is empty", LanguageEdgesTest::errorsEmptyTape);
    Check.sentence("it is empty behind it", LanguageEdgesTest::teachEmptiesTape);
    Check.sentence("4. an empty tape", LanguageEdgesTest::teachNothing);
    Check.sentence("5. the position of the error of the latest teach()",
        LanguageEdgesTest::latestError);
    Check.sentence("5. -1 if it had none", LanguageEdgesTest::noError);
    Check.sentence("5. -1 if there was none", LanguageEdgesTest::neverTaught);
    Check.sentence("positions are counted from 0, in bytes", LanguageEdgesTest::positions);
  }

  private static void tokenSentences() {
    Check.sentence("blanks and line ends can stand between tokens, at the beginning and the end",
        LanguageEdgesTest::blanks);
    Check.sentence("no other byte is a blank", LanguageEdgesTest::noBlanks);
    Check.sentence("they have to stand between tokens that would be read as one",
        LanguageEdgesTest::blanksBetween);
    Check.sentence("the longest possible token is always read", LanguageEdgesTest::longestToken);
    Check.sentence("a word: a letter a to z, followed by letters a to z and digits",
        LanguageEdgesTest::words);
    Check.sentence("a word: at most 10 bytes", LanguageEdgesTest::longestWord);
    Check.sentence("names are the same by all of their bytes", LanguageEdgesTest::sameNames);
    Check.sentence("a number: 1 to 6 digits", LanguageEdgesTest::longestNumber);
    Check.sentence("the symbols", LanguageEdgesTest::symbols);
    Check.sentence("the keywords are no names", LanguageEdgesTest::keywords);
    Check.sentence("all other words are names", LanguageEdgesTest::otherWords);
  }

  private static void grammarSentences() {
    Check.sentence("{ line ; } any number of times, also none", LanguageEdgesTest::lines);
    Check.sentence("a line ends with ;", LanguageEdgesTest::lineEnds);
    Check.sentence("[ when test ] or nothing", LanguageEdgesTest::whenOrNothing);
    Check.sentence("{ or both } { and single } any number of times", LanguageEdgesTest::chains);
    Check.sentence("a test in [ ], a sum in ( )", LanguageEdgesTest::brackets);
    Check.sentence("depth: between a ( and its )", LanguageEdgesTest::depthOfSums);
    Check.sentence("depth: the ( of min and max", LanguageEdgesTest::depthOfMin);
    Check.sentence("depth: between a [ and its ]", LanguageEdgesTest::depthOfTests);
    Check.sentence("depth: behind a - in front for what it turns", LanguageEdgesTest::depthOfMinus);
    Check.sentence("depth: a - between two products is none", LanguageEdgesTest::noDepthBetween);
    Check.sentence("depth: behind a not for what it turns", LanguageEdgesTest::depthOfNot);
    Check.sentence("depth: at most 8 in all", LanguageEdgesTest::depthInAll);
    Check.sentence("depth: 0 at the beginning of each sum and test",
        LanguageEdgesTest::depthBeginsAnew);
  }

  private static void firstErrorSentences() {
    Check.sentence("error 1: the first token that no barn goes on with",
        LanguageEdgesTest::firstWrongToken);
    Check.sentence("error 1: a byte with which no token begins", LanguageEdgesTest::noToken);
    Check.sentence("error 1: a word that is too long", LanguageEdgesTest::tooLongWord);
    Check.sentence("error 1: a number that is too long", LanguageEdgesTest::tooLongNumber);
    Check.sentence("error 1: the end of the tape (at its length)", LanguageEdgesTest::endOfTape);
    Check.sentence("error 1: behind which the depth would be 9", LanguageEdgesTest::tooDeep);
    Check.sentence("error 1: the 401st token", LanguageEdgesTest::tokenTooMany);
    Check.sentence("error 1: the end of the tape not counted", LanguageEdgesTest::endNotCounted);
    Check.sentence("error 1: the first of several", LanguageEdgesTest::firstOfSeveral);
    Check.sentence("the position is that of its first byte", LanguageEdgesTest::firstByte);
  }

  private static void laterErrorSentences() {
    Check.sentence("errors 2 to 5 only if there is no error 1", LanguageEdgesTest::errorOneFirst);
    Check.sentence("from left to right, and the first error is told",
        LanguageEdgesTest::leftToRight);
    Check.sentence("of errors at one token the one with the smallest number",
        LanguageEdgesTest::smallestNumber);
    Check.sentence("error 2: the name behind hook is told ahead", LanguageEdgesTest::hookTwice);
    Check.sentence("error 3: another name is not told", LanguageEdgesTest::unknownNames);
    Check.sentence("error 3: told ahead, not behind", LanguageEdgesTest::toldBehind);
    Check.sentence("error 4: the name of the 7th hook", LanguageEdgesTest::seventhHook);
    Check.sentence("error 4: the first word of the 21st step", LanguageEdgesTest::stepTooMany);
    Check.sentence("error 5: behind barn not 8 to 64", LanguageEdgesTest::barnNumbers);
    Check.sentence("error 5: behind loft not 0 to 64", LanguageEdgesTest::loftNumbers);
    Check.sentence("error 5: behind promote not 0 to 5", LanguageEdgesTest::promoteNumbers);
    Check.sentence("error 5: behind ropes not 0 to 3", LanguageEdgesTest::ropesNumbers);
    Check.sentence("error 5: behind rope not 0 to 3", LanguageEdgesTest::ropeNumbers);
    Check.sentence("error 5: other numbers are free", LanguageEdgesTest::freeNumbers);
  }

  private static void toldSentences() {
    Check.sentence("hooks are numbered from 0 in the order told", LanguageEdgesTest::hookNumbers);
    Check.sentence("steps are numbered from 0 in the order told", LanguageEdgesTest::stepNumbers);
    Check.sentence("the latest line of barn", LanguageEdgesTest::latestBarn);
    Check.sentence("16 without a line of barn", LanguageEdgesTest::noBarn);
    Check.sentence("the latest line of loft", LanguageEdgesTest::latestLoft);
    Check.sentence("16 without a line of loft", LanguageEdgesTest::noLoft);
    Check.sentence("the latest line of promote", LanguageEdgesTest::latestPromote);
    Check.sentence("2 without a line of promote", LanguageEdgesTest::noPromote);
    Check.sentence("6. how many hooks there are", LanguageEdgesTest::countOfHooks);
    Check.sentence("7. how many steps are told", LanguageEdgesTest::countOfSteps);
    Check.sentence("8. how many places a half has", LanguageEdgesTest::countOfPlaces);
  }

  // ---- the tape

  private static void newObject() {
    HayBarn x = new HayBarn();
    int[] counts = {x.hooks(), x.steps(), x.stepsGoneBy(), x.stepsRefused(), x.workingHalf(),
        x.usedPlaces(), x.usedInLoft(), x.bales(), x.balesInLoft(), x.uselessBales(),
        x.copyings(), x.balesPromoted(), x.balesGone(), x.usedIfCopied()};
    for (int i = 0; i < counts.length; i++) {
      Check.due("count " + i + " of a new object", counts[i], 0);
    }
    Check.due("placesOfHalf", x.placesOfHalf(), 16);
    Check.due("longestGap", x.longestGap(), 16);
    Check.due("meanSize", x.meanSize(), 0.0);
    Check.due("stepsUntilCopying", x.stepsUntilCopying(), -1);
    Check.noHook("holdsBale", () -> x.holdsBale(0) ? 1 : 0);
    Check.noHook("make", () -> x.make(0, 1, 1));
    Check.noState("work", () -> x.work(1));
    Check.due("copyNow of nothing", x.copyNow(), 0);
    Check.due("sweepLoft of nothing", x.sweepLoft(), 0);
  }

  private static int feedBlanks(HayBarn x) {
    return x.feed(BLANKS, BLANKS, BLANKS, BLANKS, BLANKS);
  }

  private static void tapeAtFirst() {
    HayBarn x = new HayBarn();
    Check.noArgument("trim(1)", () -> x.trim(1));
    Check.due("trim(0)", x.trim(0), 0);
    Check.due("the first feed", feedBlanks(x), 20);
  }

  /** A byte that begins no token shows by errorAt where feed has put it. */
  private static void feedPositions() {
    for (int at = 0; at < 20; at++) {
      for (int sign : new int[] {0, 1, 127, 128, 255}) {
        int[] n = {BLANKS, BLANKS, BLANKS, BLANKS, BLANKS};
        int shift = 24 - at % 4 * 8;
        n[at / 4] = n[at / 4] & ~(255 << shift) | sign << shift;
        HayBarn x = new HayBarn();
        x.feed(n[0], n[1], n[2], n[3], n[4]);
        Check.due("teach of byte " + sign + " at " + at, x.teach(), 1);
        Check.due("errorAt of byte " + sign + " at " + at, x.errorAt(), at);
      }
    }
  }

  private static void feedReturns() {
    HayBarn x = new HayBarn();
    for (int i = 1; i <= 100; i++) {
      Check.due("feed " + i, x.feed(i, Integer.MIN_VALUE, -1, Integer.MAX_VALUE, 0), 20 * i);
    }
    x.trim(7);
    Check.due("feed behind trim(7)", feedBlanks(x), 27);
  }

  private static void fullTape() {
    String head = "hook a;" + " ".repeat(1986);
    HayBarn x = Check.taught(head + "drop a;");
    Check.due("the step at the end of a full tape", x.steps(), 1);
    Check.error(head + "drop a!", 1, 1999);
    Check.error(head + "drop a ", 1, 2000);
    Check.error(head + "; drop ", 1, 1993);
    Check.fine(" ".repeat(2000));
  }

  private static void feedTooMuch() {
    HayBarn x = new HayBarn();
    Check.feed(x, "hook a;" + " ".repeat(1993));
    Check.noState("feed behind 2000", () -> x.feed(-1, -1, -1, -1, -1));
    Check.noState("feed behind 2000 again", () -> feedBlanks(x));
    Check.noArgument("trim(2001)", () -> x.trim(2001));
    for (int bytes = 1999; bytes > 1980; bytes--) {
      x.trim(bytes);
      Check.noState("feed behind " + bytes, () -> x.feed(-1, -1, -1, -1, -1));
      int more = bytes + 1;
      Check.noArgument("trim(" + more + ")", () -> x.trim(more));
    }
    x.trim(1980);
    Check.due("feed behind 1980", feedBlanks(x), 2000);
    Check.due("the tape is as ahead of them", x.teach(), 0);
    Check.due("hooks", x.hooks(), 1);
  }

  private static void trimKeepsFirst() {
    HayBarn x = new HayBarn();
    Check.feed(x, "hook a;drop a;!!!!!!!!!!!!!!!!!!!!!!!!!!");
    x.trim(7);
    Check.due("teach of the first 7", x.teach(), 0);
    Check.due("hooks", x.hooks(), 1);
    Check.due("steps", x.steps(), 0);
    Check.feed(x, "hook bbbbbbbbbbbbbbb");
    x.trim(6);
    Check.feed(x, ";drop b;");
    Check.due("teach of what is fed behind a trim", x.teach(), 0);
    Check.due("steps of it", x.steps(), 1);
    Check.feed(x, "hook a;");
    x.trim(0);
    Check.due("teach of none", x.teach(), 0);
    Check.due("hooks of none", x.hooks(), 0);
  }

  /** Tokens that would go on, or lines that would end, with the bytes that are cut off. */
  private static void cutOff() {
    String[] texts = {"hook a;drop a when 1<|=2;", "hook a|b;", "barn 8|8;", "hook a|;",
        "barn 8;h|ook a;", "hook a;drop a when 1>|=", "hook a;tie a rop|e 0 to a;",
        "barn 8;hook abcdefghij|k;"};
    for (String text : texts) {
      int bytes = text.indexOf('|');
      HayBarn x = new HayBarn();
      Check.feed(x, text.replace("|", ""));
      x.trim(bytes);
      HayBarn y = new HayBarn();
      Check.feed(y, text.substring(0, bytes));
      Check.due("teach of " + text, x.teach(), y.teach());
      Check.due("errorAt of " + text, x.errorAt(), y.errorAt());
    }
    HayBarn x = new HayBarn();
    Check.teach(x, "====================");
    Check.teach(x, "hook a;drop a when 1<");
    Check.due("errorAt behind an earlier tape", x.errorAt(), 21);
    x.trim(0);
    Check.teach(x, "hook a;drop a when 1");
    Check.due("errorAt of a shorter one", x.errorAt(), 20);
  }

  private static void trimReturns() {
    HayBarn x = new HayBarn();
    Check.feed(x, " ".repeat(2000));
    for (int n : new int[] {2000, 1999, 1999, 1000, 1, 1, 0, 0}) {
      Check.due("trim", x.trim(n), n);
    }
  }

  private static void trimWrong() {
    HayBarn x = new HayBarn();
    for (int bytes : new int[] {0, 20, 2000}) {
      Check.feed(x, "hook a;".concat(" ".repeat(1993)).substring(0, bytes));
      for (int n : new int[] {-1, bytes + 1, Integer.MIN_VALUE, Integer.MAX_VALUE}) {
        Check.refused(x, "trim " + n + " of " + bytes, IllegalArgumentException.class,
            () -> x.trim(n));
      }
      Check.due("trim of all " + bytes, x.trim(bytes), bytes);
      Check.due("teach of " + bytes, x.teach(), 0);
      Check.due("hooks of " + bytes, x.hooks(), bytes == 0 ? 0 : 1);
    }
  }

  // ---- teach and errorAt

  private static void teachReturns() {
    HayBarn x = new HayBarn();
    String[] texts = {"hook a;", "hook;", "hook a;hook a;", "drop a;", SIX + "hook g;", "barn 7;"};
    for (int error = 0; error < texts.length; error++) {
      Check.due("teach of " + texts[error], Check.teach(x, texts[error]), error);
    }
  }

  private static void teachReplaces() {
    HayBarn x = Check.taught("barn 64;loft 9;promote 0;hook a;hook b;drop a;drop b;"
        + "make a size 2 ropes 0;");
    Check.due("teach", Check.teach(x, "hook c; make c size 1 ropes 0;"), 0);
    Check.due("hooks", x.hooks(), 1);
    Check.due("steps", x.steps(), 1);
    Check.due("placesOfHalf", x.placesOfHalf(), 16);
    Check.due("longestGap", x.longestGap(), 16);
    Check.due("work", x.work(1), 1);
    x.copyNow();
    Check.due("promote is 2 again", x.isInLoft(0), false);
    Check.due("names of ahead are none", Check.teach(x, "drop c;"), 3);
  }

  /** Each text tells the same, whatever was told before, and whether it was in error. */
  private static void teachAgainAndAgain() {
    String rich = "barn 40;loft 3;promote 0;hook c;hook b;hook a;drop a when has b;"
        + "make a size 3+step ropes 2 when not has a;make b size size of a ropes 1;"
        + "tie a rope 1 to b when 1=2 or has b;follow c by a rope 1;untie a rope 1 when 1<2;"
        + "drop b;";
    String poor = "hook a;make a size 2 ropes 1;drop a;tie a rope 0 to a;";
    String[] texts = {rich, poor, "", rich, "hook b;hook a;drop a;make b size 1 ropes 3;",
        "promote 5;hook a;make a size 9 ropes 0;", "barn 9;loft 9;hook a;", poor};
    String[] errors = {"barn 64;loft 64;promote 5;" + SIX + TWENTY + "@", "barn 9;drop b;",
        "loft 5;hook a;hook q;make q size 1+1*1-(1) ropes 1 when has q;hook q;",
        "promote 0;barn 7;"};
    HayBarn x = new HayBarn();
    for (int i = 0; i < texts.length; i++) {
      Check.due("teach " + i, Check.teach(x, texts[i]), 0);
      HayBarn y = Check.taught(texts[i]);
      for (int step = 0; step < 2; step++) {
        Check.due("text " + i + " behind " + step, Check.state(x), Check.state(y));
        if (x.hooks() > 0) {
          Check.due("make " + i, x.make(0, 1, 1), y.make(0, 1, 1));
          Check.due("copyNow " + i, x.copyNow(), y.copyNow());
        }
        if (x.steps() > 0) {
          Check.due("work " + i, x.work(1), y.work(1));
        }
      }
      Check.due("an error behind " + i, Check.teach(x, errors[i % errors.length]) != 0, true);
    }
  }

  /** Each text has about as many tokens as there can be, and its last steps do what they tell. */
  private static void teachLongTexts() {
    HayBarn x = new HayBarn();
    for (int times = 1; times <= 8; times++) {
      String text = "barn 64;hook a;drop a when 1" + "+1".repeat(176) + "=1;make a size " + times
          + "+1-1 ropes 0 when 1=1 and has a or not has a;drop a when 1=2;";
      Check.due("teach " + times, Check.teach(x, text), 0);
      Check.due("work " + times, x.work(3), 1);
      Check.due("size " + times, x.sizeOf(0), times);
      Check.due("an error behind it", Check.teach(x, text + "barn 7;"), 5);
      Check.due("work behind it", x.work(3), 1);
    }
  }

  private static void teachWithoutBales() {
    HayBarn x = new HayBarn();
    for (int times = 0; times < 3; times++) {
      Check.due("teach", Check.teach(x, "barn 64;loft 64;promote 0;hook a;hook b;"), 0);
      for (int i = 0; i < 64; i++) {
        Check.due("make", x.make(i % 2, 1, 2), i);
        if (i > 0) {
          x.tie(i % 2, 1, 1 - i % 2);
        }
      }
      Check.due("no copying", x.copyings(), 0);
      Check.due("bales", x.bales(), 64);
      Check.due("none is gone", x.copyNow(), 0);
      Check.due("all are promoted", x.balesInLoft(), 64);
    }
  }

  private static void teachBeginsAnew() {
    String text = "loft 4;promote 0;hook a;hook b;drop b;make a size 2 ropes 1;drop a;drop b;";
    HayBarn x = Check.taught(text);
    long first = Check.state(x);
    x.work(2);
    x.copyNow();
    x.make(0, 3, 1);
    x.make(1, 4, 1);
    x.sweepLoft();
    x.copyNow();
    x.copyNow();
    Check.due("workingHalf", x.workingHalf(), 1);
    Check.due("all is another one", Check.state(x) != first, true);
    Check.due("teach anew", Check.teach(x, text), 0);
    Check.due("all is as at first", Check.state(x), first);
    Check.due("stepsGoneBy", x.stepsGoneBy(), 0);
    Check.due("stepsRefused", x.stepsRefused(), 0);
    Check.due("workingHalf anew", x.workingHalf(), 0);
    Check.due("copyings", x.copyings(), 0);
    Check.due("balesPromoted", x.balesPromoted(), 0);
    Check.due("balesGone", x.balesGone(), 0);
    Check.due("bales", x.bales(), 0);
    Check.due("usedInLoft", x.usedInLoft(), 0);
    Check.due("holdsBale", x.holdsBale(0) || x.holdsBale(1), false);
    Check.due("the first step is the next one", x.work(1), 0);
    Check.due("it makes the bale then", x.work(1), 1);
  }

  private static void errorsKeepAll() {
    String head = "barn 64;loft 64;promote 5;hook a;hook q;make q size 1 ropes 0;";
    String[] texts = {"!", "hook a;", "drop b;", "drop q;".repeat(20), "loft 65;"};
    for (int i = 0; i < texts.length; i++) {
      HayBarn x = Check.taught("barn 9;loft 4;promote 1;hook a;hook b;hook c;"
          + "make a size 2 ropes 1;tie a rope 0 to b;drop a;make c size 3 ropes 0 when has b;");
      x.make(1, 3, 2);
      x.copyNow();
      x.work(2);
      HayBarn twin = new HayBarn();
      Check.teach(twin, "barn 9;loft 4;promote 1;hook a;hook b;hook c;"
          + "make a size 2 ropes 1;tie a rope 0 to b;drop a;make c size 3 ropes 0 when has b;");
      twin.make(1, 3, 2);
      twin.copyNow();
      twin.work(2);
      long digest = x.digest();
      Check.due("teach of " + texts[i], Check.teach(x, head + texts[i]), i + 1);
      Check.due("digest behind " + texts[i], x.digest(), digest);
      for (int step = 0; step < 30; step++) {
        Check.due("work behind " + texts[i], x.work(1), twin.work(1));
        Check.due("digest of " + step + " behind " + texts[i], x.digest(), twin.digest());
      }
    }
  }

  private static void errorsEmptyTape() {
    String[] texts = {"!", "hook a;hook a;", "drop b;", SIX + "hook g;", "loft 65;"};
    for (String text : texts) {
      HayBarn x = new HayBarn();
      Check.due("an error of " + text, Check.teach(x, text) != 0, true);
      Check.noArgument("trim(1) behind " + text, () -> x.trim(1));
      Check.due("teach again behind " + text, x.teach(), 0);
      Check.due("feed behind " + text, feedBlanks(x), 20);
    }
  }

  private static void teachEmptiesTape() {
    HayBarn x = Check.taught("hook a;drop a;");
    Check.noArgument("trim(1)", () -> x.trim(1));
    Check.due("feed", feedBlanks(x), 20);
    Check.due("teach of blanks", x.teach(), 0);
    Check.due("hooks", x.hooks(), 0);
    Check.feed(x, "hook a;" + " ".repeat(1993));
    Check.due("teach of a full tape", x.teach(), 0);
    Check.due("feed behind a full tape", feedBlanks(x), 20);
  }

  private static void teachNothing() {
    HayBarn x = Check.taught("barn 9;loft 3;hook a;drop a;");
    x.make(0, 1, 1);
    Check.due("teach of nothing", x.teach(), 0);
    Check.due("errorAt", x.errorAt(), -1);
    Check.due("all is as in a new object", Check.state(x), Check.state(new HayBarn()));
  }

  private static void latestError() {
    HayBarn x = new HayBarn();
    Check.teach(x, "barn 7;");
    Check.due("errorAt", x.errorAt(), 5);
    Check.teach(x, "drop a;hook");
    Check.due("errorAt of the next one", x.errorAt(), 11);
    Check.feed(x, "hook a;");
    x.trim(7);
    Check.due("errorAt behind feed and trim", x.errorAt(), 11);
    x.copyNow();
    x.sweepLoft();
    Check.due("errorAt behind other calls", x.errorAt(), 11);
    x.trim(0);
    Check.teach(x, ";");
    Check.due("errorAt at the beginning", x.errorAt(), 0);
  }

  private static void noError() {
    HayBarn x = new HayBarn();
    Check.teach(x, "barn 7;");
    Check.teach(x, "barn 8;");
    Check.due("errorAt behind one without", x.errorAt(), -1);
    Check.teach(x, "barn");
    x.teach();
    Check.due("errorAt behind an empty tape", x.errorAt(), -1);
  }

  private static void neverTaught() {
    HayBarn x = new HayBarn();
    Check.due("errorAt", x.errorAt(), -1);
    Check.feed(x, "barn 7;");
    Check.due("errorAt ahead of teach", x.errorAt(), -1);
  }

  private static void positions() {
    Check.error("!", 1, 0);
    Check.error("\n!", 1, 1);
    Check.error("hook\na;\n\nhook a;", 2, 14);
    Check.error("\u00e4", 1, 0);
    Check.error("hook a;\u00e4", 1, 7);
    Check.error("hook \u00e4;", 1, 5);
  }

  // ---- tokens

  private static void blanks() {
    Check.fine(" ");
    Check.fine("\n");
    Check.fine(" \n  \n\nhook a;");
    Check.fine("hook a; \n  \n\n");
    Check.fine("hook \n a \n ;\ndrop\na\nwhen\n[\n- 1 \n <= \n ( 2 \n ) ]\nor same\na\na\n;");
    Check.fine("hook a;drop a when[-1<=(2)]or same a a;make a size min(1,2)ropes 1;");
  }

  private static void noBlanks() {
    for (int sign : new int[] {0, 9, 11, 12, 13, 28, 31, 33, 95, 127, 133, 160, 255}) {
      Check.error((char) sign + "hook a;", 1, 0);
      Check.error("hook" + (char) sign + "a;", 1, 4);
      Check.error("hook a;" + (char) sign, 1, 7);
    }
  }

  private static void blanksBetween() {
    Check.errorHere(1, "@hooka;");
    Check.errorHere(1, "@barn8;");
    Check.errorHere(1, "hook a;@dropa;");
    Check.errorHere(1, "hook a;tie a @rope0 to a;");
    Check.errorHere(1, "hook a;make a @size1 ropes 1;");
    Check.errorHere(1, "hook a;drop a when 1 < @= 2;");
    Check.fine("hook a;make a size 1ropes 2when 1<2and 2>1or 1=1;");
    Check.fine("barn 8;loft 9;");
    Check.errorHere(1, "barn 8@loft 9;");
  }

  private static void longestToken() {
    Check.fine("hook a;drop a when 1<=1;drop a when 1>=1;");
    HayBarn x = Check.taught("hook a;drop a when 2<=2;drop a when 2>=2;");
    x.make(0, 1, 1);
    Check.due("<= is no <", x.work(1), 1);
    x.make(0, 1, 1);
    Check.due(">= is no >", x.work(1), 1);
    Check.fine("hook ropess;hook barns;hook tomato;hook orb;hook notan;drop orb;");
    Check.errorHere(1, "hook a;drop a when @nothas a;");
    Check.errorHere(1, "hook a;untie a @ropes 1;");
    Check.errorHere(1, "hook a;drop a when 1=@<1;");
    Check.errorHere(1, "hook a;drop a when 1<=@=1;");
    Check.errorHere(1, "hook a;make a size 1 @rope 1;");
  }

  /** Each byte behind a letter: those of a word go on with it, and no other one does. */
  private static void words() {
    Check.fine("hook z;hook a;hook zz;hook a0;hook z9;");
    Check.errorHere(1, "hook @1a;");
    Check.errorHere(1, "hook @0;");
    Check.errorHere(1, "hook @A;");
    Check.errorHere(1, "hook @_a;");
    for (int sign = 0; sign < 256; sign++) {
      boolean goesOn = sign >= 'a' && sign <= 'z' || sign >= '0' && sign <= '9';
      String text = "hook a" + (char) sign + ";";
      if (goesOn || sign == ' ' || sign == '\n') {
        Check.fine(text);
      } else {
        Check.error(text, 1, sign == ';' ? 7 : 6);
      }
    }
  }

  private static void longestWord() {
    Check.fine("hook abcdefghij;");
    Check.fine("hook a123456789;drop a123456789;");
    Check.errorHere(1, "hook @abcdefghijk;");
    Check.errorHere(1, "hook @a1234567890;");
    Check.errorHere(1, "hook @" + "a".repeat(1000) + ";");
  }

  private static void sameNames() {
    HayBarn x = Check.taught("hook a12345678x;hook a12345678y;hook a1;hook a;hook aa;"
        + "make aa size 1 ropes 0;make a size 1 ropes 0;make a12345678y size 1 ropes 0;");
    int[] order = {4, 3, 1};
    for (int hook : order) {
      Check.due("hook " + hook + " ahead", x.holdsBale(hook), false);
      x.work(1);
      Check.due("hook " + hook, x.holdsBale(hook), true);
    }
    Check.errorHere(3, "hook aa;drop @a;");
    Check.errorHere(3, "hook a;drop @aa;");
    Check.errorHere(3, "hook ab;drop @aa;");
  }

  private static void longestNumber() {
    Check.fine("loft 0;");
    Check.fine("loft 000000;");
    Check.fine("barn 000064;hook a;make a size 999999 ropes 000003;");
    Check.errorHere(1, "loft @0000000;");
    Check.errorHere(1, "hook a;make a size @1000000 ropes 0;");
    Check.errorHere(1, "hook a;make a size @" + "1".repeat(500) + " ropes 0;");
    HayBarn x = Check.taught("hook a;drop a when 999999 = 1000 * 1000 - 1;");
    x.make(0, 1, 1);
    Check.due("999999 is read whole", x.work(1), 1);
  }

  private static void symbols() {
    Check.fine("hook a;drop a when [(1)+1-1*1/1<2]"
        + "and 1>0 and 1=1 and 1<=1 and 1>=1 and min(1,2)=1;");
    for (char sign : "()[],+-*/<>=".toCharArray()) {
      Check.error("hook a;" + sign, 1, 7);
    }
    Check.error("hook a;;", 1, 7);
  }

  private static void keywords() {
    for (String word : KEYWORDS) {
      Check.errorHere(1, "hook @" + word + ";");
      Check.errorHere(1, "hook a;drop @" + word + ";");
      Check.fine("hook " + word + "x;drop " + word + "x;");
    }
  }

  private static void otherWords() {
    for (String word : new String[] {"steps", "hooks", "half", "if", "is", "a", "places", "true",
        "begin", "end", "rop", "ag", "bale", "copy", "minus", "no", "null", "us", "tied"}) {
      Check.fine("hook " + word + ";drop " + word + ";");
      Check.errorHere(1, "@" + word + ";");
    }
  }

  // ---- grammar and depth

  private static void lines() {
    Check.fine("");
    Check.fine("barn 8;");
    Check.fine("barn 8;".repeat(133));
    Check.fine("barn 8;hook b;promote 0;drop b;loft 0;drop b;hook a;");
    Check.errorHere(1, "@;");
    Check.errorHere(1, "barn 8;@;");
  }

  private static void lineEnds() {
    for (String line : new String[] {"barn 8", "loft 8", "promote 1", "hook b", "drop a",
        "make a size 1 ropes 1", "tie a rope 0 to a", "untie a rope 0", "follow a by a rope 0",
        "drop a when has a"}) {
      Check.fine("hook a;" + line + ";");
      Check.errorHere(1, "hook a;" + line + "@");
      Check.errorHere(1, "hook a;" + line + " @barn 8;");
      Check.errorHere(1, "hook a;" + line + "@,");
    }
  }

  private static void whenOrNothing() {
    for (String step : new String[] {"make a size 1 ropes 1", "tie a rope 0 to a",
        "untie a rope 0", "follow a by a rope 0", "drop a"}) {
      Check.fine("hook a;" + step + ";" + step + " when has a;");
      Check.errorHere(1, "hook a;" + step + " when@;");
      Check.errorHere(1, "hook a;" + step + " when has a @when has a;");
    }
    Check.errorHere(1, "barn 8 @when 1 = 1;");
    Check.errorHere(1, "hook a @when 1 = 1;");
  }

  private static void chains() {
    String start = "hook a;drop a when has a";
    Check.fine(start + ";");
    Check.fine(start + " or has a".repeat(120) + ";");
    Check.fine(start + " and has a".repeat(120) + ";");
    Check.fine(start + " and has a or has a".repeat(60) + ";");
    Check.errorHere(1, start + " or@;");
    Check.errorHere(1, start + " and@;");
    Check.errorHere(1, start + " or @and has a;");
    Check.fine("hook a;make a size 1" + "+1-1".repeat(90) + " ropes 0;");
    Check.fine("hook a;make a size 1" + "*1/1".repeat(90) + " ropes 0;");
    Check.errorHere(1, "hook a;make a size 1+@ropes 0;");
    Check.errorHere(1, "hook a;make a size 1*@/1 ropes 0;");
    Check.errorHere(1, "hook a;drop a when 1<2@<3;");
  }

  private static void brackets() {
    Check.errorHere(1, "hook a;drop a when (1@=1);");
    Check.errorHere(1, "hook a;drop a when [1@];");
    Check.errorHere(1, "hook a;drop a when [1=1]@=1;");
    Check.errorHere(1, "hook a;drop a when (1@];");
    Check.errorHere(1, "hook a;drop a when [1=1@);");
    Check.errorHere(1, "hook a;drop a when (@);");
    Check.errorHere(1, "hook a;drop a when [@];");
    Check.errorHere(1, "hook a;drop a when 1=1@];");
    Check.errorHere(1, "hook a;drop a when (1)@)=1;");
    Check.errorHere(1, "hook a;drop a when min(1@)=1;");
    Check.errorHere(1, "hook a;drop a when max(1,2@,3)=1;");
    Check.errorHere(1, "hook a;drop a when (1@,2)=1;");
    Check.errorHere(1, "hook a;drop a when min@[1,2]=1;");
    Check.errorHere(1, "hook a;make a size @[1] ropes 0;");
    Check.errorHere(1, "hook a;make a size @not 1 ropes 0;");
    Check.errorHere(1, "hook a;make a size @has a ropes 0;");
  }

  private static String when(String test) {
    return "hook a;drop a when " + test + ";";
  }

  private static String sized(String sum) {
    return "hook a;make a size " + sum + " ropes 0;";
  }

  private static void depthOfSums() {
    String deep = "((((((((1))))))))";
    Check.fine(when(deep + "=" + deep));
    Check.fine(when(deep + "+" + deep + "*" + deep + ">=1"));
    Check.fine(sized(deep));
    Check.errorHere(1, when("((((((((@(1)))))))))=1"));
    Check.errorHere(1, when("1=((((((((@(1)))))))))"));
    Check.errorHere(1, when(deep + "+((((((((@(1)))))))))=1"));
    Check.errorHere(1, sized("((((((((@(1)))))))))"));
    Check.errorHere(1, sized("((((((((1+1)*(2+@(3))))))))))"));
  }

  private static void depthOfMin() {
    String deep = "min(max(1,max(2,min(3,max(4,min(5,min(6,max(7,8))))))),9)";
    Check.fine(sized(deep));
    Check.fine(sized("max(" + "(".repeat(7) + "1" + ")".repeat(7) + ",1)"));
    Check.errorHere(1, sized("min(1,".repeat(8) + "min@(1,1)"));
    Check.errorHere(1, sized("max(".repeat(8) + "max@(1,1)"));
    Check.errorHere(1, sized("max(" + "(".repeat(7) + "@(1)"));
    Check.errorHere(1, sized("max(1," + "(".repeat(7) + "@(1)"));
    Check.fine(sized(deep + "+" + deep));
  }

  private static void depthOfTests() {
    String deep = "[[[[[[[[1=1]]]]]]]]";
    Check.fine(when(deep));
    Check.fine(when(deep + " and " + deep + " or " + deep));
    Check.errorHere(1, when("[[[[[[[[@[1=1]]]]]]]]]"));
    Check.errorHere(1, when("1=1 or [[[[[[[[@[1=1]]]]]]]]]"));
    Check.errorHere(1, when("1=1 and [[[[[[[[@[1=1]]]]]]]]]"));
    Check.errorHere(1, when("[[[[[[[[1=1]] and [[@[1=1]]]]]]]]]"));
  }

  private static void depthOfMinus() {
    Check.fine(sized("--------1"));
    Check.errorHere(1, sized("--------@-1"));
    Check.errorHere(1, sized("--------@(1)"));
    Check.errorHere(1, sized("-(-(-(-(@-1))))"));
    Check.fine(sized("-1+((((((((1))))))))"));
    Check.fine(sized("--------1*((((((((1))))))))"));
    Check.fine(when("--------1=--------1"));
  }

  private static void noDepthBetween() {
    Check.fine(sized("1---------1"));
    Check.errorHere(1, sized("1---------@-1"));
    Check.fine(sized("((((((((1-1-1))))))))"));
    Check.errorHere(1, sized("((((((((1-@-1))))))))"));
    Check.fine(sized("1-((((((((1))))))))"));
  }

  private static void depthOfNot() {
    String deep = "not not not not not not not not ";
    Check.fine(when(deep + "1=1"));
    Check.fine(when(deep + "has a and " + deep + "has a or " + deep + "has a"));
    Check.errorHere(1, when(deep + "@not 1=1"));
    Check.errorHere(1, when(deep + "@[1=1]"));
    Check.errorHere(1, when(deep + "@-1=1"));
    Check.errorHere(1, when(deep + "1=@(1)"));
    Check.fine(when(deep + "1=1 and ((((((((1))))))))=1"));
  }

  private static void depthInAll() {
    String[] eight = {"not [not [not [not [", "[[[not [-(-", "[[[[[[[(", "not not not [1=-((-",
        "[min(1,(max(-(-(", "not [[[[[[-"};
    for (String start : eight) {
      boolean inSum = start.contains("(") || start.endsWith("-");
      Check.errorHere(1, when(start + "@(1"));
      Check.errorHere(1, when(start + "@-1"));
      Check.errorHere(1, when(start + "min@(1"));
      Check.errorHere(1, when(start + "1@"));
      if (!inSum) {
        Check.errorHere(1, when(start + "@[1"));
        Check.errorHere(1, when(start + "@not 1"));
        Check.fine(when(start + "same a a]]]]"));
        Check.fine(when(start + "1-1=size of a*1]]]]"));
      }
    }
    Check.fine(when("[[[not [-(-1)=1]]]]"));
    Check.fine(when("not not not [1=-((-1))]"));
  }

  private static void depthBeginsAnew() {
    String deep = "((((((((1))))))))";
    Check.fine("hook a;make a size " + deep + " ropes 0 when " + deep + "=1;make a size " + deep
        + " ropes 0 when [[[[[[[[1=1]]]]]]]];");
  }

  // ---- error 1

  private static void firstWrongToken() {
    Check.errorHere(1, "@8;");
    Check.errorHere(1, "@a;");
    Check.errorHere(1, "barn @a;");
    Check.errorHere(1, "barn@;");
    Check.errorHere(1, "loft @-1;");
    Check.errorHere(1, "promote @(1);");
    Check.errorHere(1, "hook @1;");
    Check.errorHere(1, "hook a @b;");
    Check.errorHere(1, "hook a;make @size 1 ropes 1;");
    Check.errorHere(1, "hook a;make a @ropes 1 size 1;");
    Check.errorHere(1, "hook a;make a size @ropes 1;");
    Check.errorHere(1, "hook a;make a size 1 ropes @step;");
    Check.errorHere(1, "hook a;make a size 1 ropes 1@+1;");
    Check.errorHere(1, "hook a;tie a @to a;");
    Check.errorHere(1, "hook a;tie a rope @a to a;");
    Check.errorHere(1, "hook a;tie a rope 0 @by a;");
    Check.errorHere(1, "hook a;tie a rope 0 to @0;");
    Check.errorHere(1, "hook a;untie a rope 0 @to a;");
    Check.errorHere(1, "hook a;untie a@;");
    Check.errorHere(1, "hook a;follow a @rope 0 by a;");
    Check.errorHere(1, "hook a;follow a by @0 rope 0;");
    Check.errorHere(1, "hook a;follow a by a@;");
    Check.errorHere(1, "hook a;drop@;");
    Check.errorHere(1, "hook a;drop a @rope 0;");
    Check.errorHere(1, when("@a"));
    Check.errorHere(1, when("has @1"));
    Check.errorHere(1, when("same a@"));
    Check.errorHere(1, when("1@"));
    Check.errorHere(1, when("1 @and 1=1"));
    Check.errorHere(1, when("1=@not 1=1"));
    Check.errorHere(1, when("size @a=1"));
    Check.errorHere(1, when("age of @1=1"));
    Check.errorHere(1, when("@+1=1"));
    Check.errorHere(1, when("min @1,2=1"));
    Check.errorHere(1, when("min@=1"));
    Check.errorHere(1, "hook a;make a size max @ropes 1;");
  }

  private static void noToken() {
    String begins = "abcdefghijklmnopqrstuvwxyz0123456789()[];,+-*/<>= \n";
    for (int sign = 0; sign < 256; sign++) {
      if (begins.indexOf(sign) < 0) {
        Check.error("barn 8;" + (char) sign, 1, 7);
        Check.error("barn 8;hook " + (char) sign + ";", 1, 12);
        Check.error("barn " + (char) sign + "8;", 1, 5);
      }
    }
  }

  private static void tooLongWord() {
    Check.errorHere(1, "@hookhookhoo a;");
    Check.errorHere(1, "barn 8;hook @abcdefghijk;");
    Check.errorHere(1, "hook a;drop @a1234567890;");
    Check.errorHere(1, "hook a;@droppppppppp");
  }

  private static void tooLongNumber() {
    Check.errorHere(1, "barn @0000008;");
    Check.errorHere(1, "barn @1234567;");
    Check.errorHere(1, when("1=@1000000"));
    Check.errorHere(1, "hook a;untie a rope @0000000");
  }

  private static void endOfTape() {
    Check.errorHere(1, "barn@");
    Check.errorHere(1, "barn 8@");
    Check.errorHere(1, "barn 8 \n @");
    Check.errorHere(1, "barn 8; hook@");
    Check.errorHere(1, "hook a;drop a when 1<@");
    Check.errorHere(1, "hook a;drop a when [1<1@");
    Check.errorHere(1, "hook" + " ".repeat(1996) + "@");
    Check.fine("barn 8; \n ");
  }

  private static void tooDeep() {
    Check.errorHere(1, when("((((((((@("));
    Check.errorHere(1, when("[[[[[[[[@["));
    Check.errorHere(1, when("--------@-"));
    Check.errorHere(1, when("not not not not not not not not @not"));
    Check.errorHere(1, when("((((((((min@("));
    Check.errorHere(1, "drop b;drop a when ((((((((@(1)))))))))=1;barn 7;");
  }

  /** So many tokens, 10 at least. */
  private static String tokens(int count) {
    String minus = count % 2 == 0 ? "" : "-";
    return "hook a;drop a when " + minus + "1" + "+1".repeat(count / 2 - 5) + "=1;";
  }

  private static void tokenTooMany() {
    Check.fine(tokens(10));
    Check.fine(tokens(399));
    Check.fine(tokens(400));
    Check.error(tokens(401), 1, tokens(401).length() - 1);
    Check.error(tokens(402), 1, tokens(402).length() - 2);
    Check.errorHere(1, tokens(400) + " \n@hook b;");
    Check.errorHere(1, tokens(400) + "@;");
    Check.errorHere(1, tokens(399) + "barn@");
    Check.errorHere(1, "barn 8;".repeat(133) + "barn @8;");
    Check.errorHere(1, "barn 7;".repeat(133) + "barn @8;");
    Check.errorHere(1, tokens(400) + "@barnbarnbarn");
    Check.errorHere(1, tokens(400) + "@1234567");
  }

  private static void endNotCounted() {
    Check.fine(tokens(400));
    Check.fine(tokens(400) + " \n \n");
    Check.errorHere(1, tokens(398) + "barn 8@");
    Check.errorHere(1, tokens(398) + "barn 8 @");
  }

  private static void firstOfSeveral() {
    Check.errorHere(1, "hook @1; hook 2; !");
    Check.errorHere(1, "@! hook 1;");
    Check.errorHere(1, "hook a; hook a @drop ((((((((((");
    Check.errorHere(1, "barn @barn " + tokens(401));
  }

  private static void firstByte() {
    Check.errorHere(1, "hook a; @size of a;");
    Check.errorHere(1, "hook a; drop a when 1 < \n @<= 1;");
    Check.errorHere(2, "hook abc; hook \n @abc;");
    Check.errorHere(3, "hook abc; drop   @abcd;");
    Check.errorHere(4, "hook a;" + TWENTY + "  @make a size 1 ropes 1;");
    Check.errorHere(5, "barn \n @000007;");
  }

  // ---- errors 2 to 5

  private static void errorOneFirst() {
    String[] laters = {"hook a;", "drop b;", "drop a;".repeat(21), "barn 7;"};
    for (int i = 0; i < laters.length; i++) {
      Check.due("error " + (i + 2), Check.teach(new HayBarn(), "hook a;" + laters[i]), i + 2);
      Check.errorHere(1, "hook a;" + laters[i] + "@!");
      Check.errorHere(1, "hook a;" + laters[i] + "hook@");
      Check.errorHere(1, "hook a;" + laters[i] + "drop a when ((((((((@(");
      Check.errorHere(1, "hook a;" + laters[i] + "hook @abcdefghijk;");
    }
    Check.errorHere(1, "barn 7@");
    Check.errorHere(1, "drop b@");
  }

  private static void leftToRight() {
    String[] texts = {"hook @a;", "drop @b;", TWENTY + "@drop a;", "barn @7;"};
    for (int one = 0; one < texts.length; one++) {
      for (String next : texts) {
        Check.errorHere(one + 2, "hook a;" + texts[one] + next.replace("@", ""));
      }
    }
    Check.errorHere(3, "hook a;tie @b rope 4 to c;");
    Check.errorHere(5, "hook a;tie a rope @4 to c;");
    Check.errorHere(3, "hook a;make a size size of @b ropes 4 when has c;");
    Check.errorHere(5, "hook a;make a size 1 ropes @4 when has c;");
    Check.errorHere(3, "hook a;follow a by @b rope 4;");
    Check.errorHere(4, "hook a;" + TWENTY + "@drop b;");
    Check.errorHere(5, "barn @7; barn 65; loft 65;");
  }

  private static void smallestNumber() {
    Check.errorHere(2, SIX + "hook @a;");
    Check.errorHere(2, SIX + "hook @f;");
    Check.errorHere(4, SIX + "hook @g;");
  }

  private static void hookTwice() {
    Check.errorHere(2, "hook a;hook @a;");
    Check.errorHere(2, "hook a;hook b;drop b;hook @a;");
    Check.errorHere(2, "hook a;hook b;hook @b;");
    Check.errorHere(2, "hook a123456789;hook @a123456789;");
    Check.fine("hook a;hook aa;hook a1;");
  }

  private static void unknownNames() {
    Check.errorHere(3, "drop @a;");
    for (String step : new String[] {"make @b size 1 ropes 0", "tie @b rope 0 to a",
        "tie a rope 0 to @b", "untie @b rope 0", "follow @b by a rope 0", "follow a by @b rope 0",
        "drop @b", "make a size size of @b ropes 0", "make a size age of @b ropes 0",
        "drop a when has @b", "drop a when same @b a", "drop a when same a @b",
        "drop a when size of @b=1", "drop a when 1=age of @b",
        "drop a when not [1=1 or min(1,-size of @b)=1]"}) {
      Check.errorHere(3, "hook a;" + step + ";");
      Check.fine("hook a;hook b;" + step.replace("@", "") + ";");
    }
  }

  private static void toldBehind() {
    Check.errorHere(3, "drop @a;hook a;");
    Check.errorHere(3, "hook a;tie a rope 0 to @b;hook b;");
    Check.errorHere(3, "hook a;drop a when has @b;hook b;");
    Check.fine("hook a;drop a;hook b;drop b;");
  }

  private static void seventhHook() {
    Check.fine(SIX);
    Check.errorHere(4, SIX + "hook @g;");
    Check.errorHere(4, SIX + "drop a;barn 9;hook @g;hook h;");
    HayBarn x = Check.taught(SIX + "make f size 1 ropes 0;");
    x.work(1);
    Check.due("the 6th hook", x.holdsBale(5), true);
  }

  private static void stepTooMany() {
    Check.fine("hook a;" + TWENTY);
    for (String step : new String[] {"@make a size 1 ropes 0;", "@tie a rope 0 to a;",
        "@untie a rope 0;", "@follow a by a rope 0;", "@drop a when has a;"}) {
      Check.errorHere(4, "hook a;" + TWENTY + step);
      Check.fine("hook a;" + TWENTY.substring(7) + step.substring(1));
    }
    Check.errorHere(4, "hook a;" + TWENTY + "hook b;@drop b;drop a;");
  }

  /** Which numbers are fine there, and that those just outside are not. */
  private static void range(String ahead, int least, int most, String behind) {
    for (int n : new int[] {0, 1, 2, 3, 4, 5, 6, 7, 8, 9, 10, 15, 16, 17, 63, 64, 65, 66, 100, 128,
        255, 256, 264, 65536, 65544, 999999}) {
      if (n >= least && n <= most) {
        Check.fine(ahead + n + behind);
      } else {
        Check.error(ahead + n + behind, 5, ahead.length());
      }
    }
  }

  private static void barnNumbers() {
    range("barn ", 8, 64, ";");
  }

  private static void loftNumbers() {
    range("loft ", 0, 64, ";");
  }

  private static void promoteNumbers() {
    range("promote ", 0, 5, ";");
  }

  private static void ropesNumbers() {
    range("hook a;make a size 1 ropes ", 0, 3, ";");
  }

  private static void ropeNumbers() {
    range("hook a;tie a rope ", 0, 3, " to a;");
    range("hook a;untie a rope ", 0, 3, ";");
    range("hook a;follow a by a rope ", 0, 3, ";");
  }

  private static void freeNumbers() {
    range("hook a;make a size ", 0, 999999, " ropes 1;");
    range("hook a;drop a when 7 = ", 0, 999999, ";");
  }

  // ---- what is told

  private static void hookNumbers() {
    HayBarn x = Check.taught("hook c;barn 9;hook a;drop a;hook b;make a size 2 ropes 0;");
    x.work(2);
    Check.due("c", x.holdsBale(0), false);
    Check.due("a", x.holdsBale(1), true);
    Check.due("b", x.holdsBale(2), false);
  }

  private static void stepNumbers() {
    HayBarn x = Check.taught("hook a;make a size 3 ropes 0;barn 30;make a size 2 ropes 0;"
        + "loft 0;drop a;");
    x.work(1);
    Check.due("the first one", x.sizeOf(0), 3);
    x.work(1);
    Check.due("the second one", x.sizeOf(0), 2);
    x.work(1);
    Check.due("the third one", x.holdsBale(0), false);
  }

  private static void latestBarn() {
    Check.due("the latest", Check.taught("barn 64;barn 9;").placesOfHalf(), 9);
    Check.due("the latest, behind steps",
        Check.taught("barn 9;hook a;drop a;barn 64;").placesOfHalf(), 64);
    Check.errorHere(5, "barn @7;barn 9;");
  }

  private static void noBarn() {
    Check.due("none", Check.taught("loft 9;promote 1;hook a;").placesOfHalf(), 16);
    HayBarn x = Check.taught("hook a;hook b;hook c;");
    x.make(0, 9, 0);
    x.make(1, 7, 0);
    Check.due("16 are used", x.usedPlaces(), 16);
    Check.noState("the 17th", () -> x.make(2, 1, 0));
  }

  private static void latestLoft() {
    Check.due("the latest", Check.taught("loft 64;loft 9;").longestGap(), 9);
    Check.due("the latest is 0", Check.taught("loft 64;hook a;drop a;loft 0;").longestGap(), 0);
    Check.due("the latest is 64", Check.taught("loft 0;hook a;loft 64;").longestGap(), 64);
  }

  private static void noLoft() {
    Check.due("none", Check.taught("barn 9;promote 1;hook a;").longestGap(), 16);
  }

  /** By which copying a bale is promoted. */
  private static int promotedBy(String text) {
    HayBarn x = Check.taught(text + "hook a;");
    x.make(0, 1, 0);
    for (int copying = 1; copying <= 7; copying++) {
      x.copyNow();
      if (x.isInLoft(0)) {
        return copying;
      }
    }
    return -1;
  }

  private static void latestPromote() {
    for (int promote = 0; promote <= 5; promote++) {
      Check.due("promote " + promote, promotedBy("promote " + promote + ";"), promote + 1);
      Check.due("the latest is " + promote,
          promotedBy("promote " + (5 - promote) + ";loft 9;promote " + promote + ";"), promote + 1);
    }
  }

  private static void noPromote() {
    Check.due("none", promotedBy("barn 9;loft 9;"), 3);
  }

  private static void countOfHooks() {
    for (int hooks = 0; hooks <= 6; hooks++) {
      HayBarn x = Check.taught(SIX.substring(0, 7 * hooks));
      Check.due("hooks", x.hooks(), hooks);
      int none = hooks;
      Check.noHook("the hook behind the last one", () -> x.holdsBale(none) ? 1 : 0);
      if (hooks > 0) {
        Check.due("the last one", x.holdsBale(hooks - 1), false);
      }
    }
  }

  private static void countOfSteps() {
    for (int steps = 0; steps <= 20; steps++) {
      HayBarn x = Check.taught("hook a;" + TWENTY.substring(0, 7 * steps));
      Check.due("steps", x.steps(), steps);
    }
  }

  private static void countOfPlaces() {
    for (int places = 8; places <= 64; places++) {
      Check.due("places", Check.taught("barn " + places + ";").placesOfHalf(), places);
    }
  }
}
