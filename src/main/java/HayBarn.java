import java.util.Arrays;

/** A barn of hay bales: a tape tells it, steps work in it, and it is copied from half to half. */
public final class HayBarn {
  private static final int TAPE_LIMIT = 2000;
  private static final int FED_AT_ONCE = 20;
  private static final int TOKEN_LIMIT = 400;
  private static final int WORD_LIMIT = 10;
  private static final int DIGIT_LIMIT = 6;
  private static final int DEPTH_LIMIT = 8;
  private static final int HOOK_LIMIT = 6;
  private static final int STEP_LIMIT = 20;
  private static final int LEAST_HALF = 8;
  private static final int PLACE_LIMIT = 64;
  private static final int PROMOTE_LIMIT = 5;
  private static final int ROPE_LIMIT = 3;
  private static final int SIZE_LIMIT = 9;
  private static final int BALE_LIMIT = 128;
  private static final int WORK_LIMIT = 100;
  private static final int NONE = -1;
  private static final int DIGEST_START = 971;
  private static final int DIGEST_LOFT = 100;
  private static final Sign[] SIGNS = Sign.values();

  private final byte[] tape = new byte[TAPE_LIMIT];
  private Plan plan = new Plan();
  private Plan sparePlan = new Plan();
  private final Reader reader = new Reader(tape, sparePlan);
  private final Barn barn = new Barn(plan);
  private final Barn trial = new Barn(plan);
  private final Hands hands = new Hands();
  private int tapeLength = 0;
  private int errorPosition = NONE;

  public HayBarn() {
  }

  // ---- the language

  public int feed(int a, int b, int c, int d, int e) throws IllegalStateException {
    if (tapeLength > TAPE_LIMIT - FED_AT_ONCE) {
      throw new IllegalStateException("the tape has no room for twenty bytes more");
    }
    append(a);
    append(b);
    append(c);
    append(d);
    append(e);
    return tapeLength;
  }

  public int trim(int n) throws IllegalArgumentException {
    if (n < 0 || n > tapeLength) {
      throw new IllegalArgumentException("the tape has not so many bytes");
    }
    tapeLength = n;
    return n;
  }

  public int teach() {
    int error = reader.read(tapeLength, sparePlan);
    errorPosition = reader.position();
    tapeLength = 0;
    if (error == 0) {
      Plan old = plan;
      plan = sparePlan;
      sparePlan = old;
      barn.begin(plan);
    }
    return error;
  }

  public int errorAt() {
    return errorPosition;
  }

  // ---- the barn

  public int hooks() {
    return plan.hookCount;
  }

  public int steps() {
    return plan.stepCount;
  }

  public int placesOfHalf() {
    return plan.halfPlaces;
  }

  public int stepsGoneBy() {
    return barn.stepsGone;
  }

  public int stepsRefused() {
    return barn.refused;
  }

  public int workingHalf() {
    return barn.working;
  }

  public int usedPlaces() {
    return barn.used;
  }

  public int usedInLoft() {
    return barn.loft.usedCount();
  }

  public int longestGap() {
    return barn.loft.widestGap();
  }

  public int bales() {
    return barn.baleCount();
  }

  public int balesInLoft() {
    return barn.loft.baleCount;
  }

  public int uselessBales() {
    return barn.uselessCount();
  }

  public int copyings() {
    return barn.copied;
  }

  public int balesPromoted() {
    return barn.promoted;
  }

  public int balesGone() {
    return barn.gone;
  }

  // ---- what hooks hold

  public boolean holdsBale(int hook) throws IndexOutOfBoundsException {
    checkHook(hook);
    return barn.held(hook) != NONE;
  }

  public int placeOf(int hook) throws IndexOutOfBoundsException, IllegalStateException {
    return barn.pool.place(heldBale(hook));
  }

  public int sizeOf(int hook) throws IndexOutOfBoundsException, IllegalStateException {
    return barn.pool.size(heldBale(hook));
  }

  public int ropesOf(int hook) throws IndexOutOfBoundsException, IllegalStateException {
    return barn.pool.ropes(heldBale(hook));
  }

  public int ageOf(int hook) throws IndexOutOfBoundsException, IllegalStateException {
    return barn.pool.age(heldBale(hook));
  }

  public boolean isInLoft(int hook) throws IndexOutOfBoundsException, IllegalStateException {
    return barn.pool.liesInLoft(heldBale(hook));
  }

  public boolean ropeLeads(int hook, int rope)
      throws IndexOutOfBoundsException, IllegalStateException {
    int bale = heldBale(hook);
    if (!barn.pool.hasRope(bale, rope)) {
      throw new IllegalStateException("the bale has no such rope");
    }
    return barn.pool.lead(bale, rope) != NONE;
  }

  public boolean holdSame(int a, int b) throws IndexOutOfBoundsException {
    checkHook(a);
    checkHook(b);
    return barn.sameHeld(a, b);
  }

  public int ropesBetween(int a, int b) throws IndexOutOfBoundsException, IllegalStateException {
    checkHook(a);
    checkHook(b);
    return barn.ropesAway(heldBale(a), heldBale(b));
  }

  // ---- by hand

  public int make(int hook, int size, int ropes)
      throws IndexOutOfBoundsException, IllegalArgumentException, IllegalStateException {
    checkHook(hook);
    if (size < 1 || size > SIZE_LIMIT || ropes < 0 || ropes > ROPE_LIMIT) {
      throw new IllegalArgumentException("there is no bale of this size or with so many ropes");
    }
    if (!barn.makeBale(hook, size, ropes)) {
      throw new IllegalStateException("the working half has no place for the bale");
    }
    return barn.pool.place(barn.held(hook));
  }

  public int tie(int hook, int rope, int to)
      throws IndexOutOfBoundsException, IllegalStateException {
    checkHook(hook);
    checkHook(to);
    if (!barn.tieRope(hook, rope, to)) {
      throw new IllegalStateException("there is no such rope, or no bale to lead to");
    }
    return barn.pool.leadCount(barn.held(hook));
  }

  public int follow(int hook, int of, int rope)
      throws IndexOutOfBoundsException, IllegalStateException {
    checkHook(hook);
    checkHook(of);
    if (!barn.followRope(hook, of, rope)) {
      throw new IllegalStateException("there is no such rope, or it leads to none");
    }
    return barn.pool.place(barn.held(hook));
  }

  public int drop(int hook) throws IndexOutOfBoundsException, IllegalStateException {
    checkHook(hook);
    if (!barn.dropBale(hook)) {
      throw new IllegalStateException("the hook holds no bale");
    }
    return barn.uselessCount();
  }

  public int copyNow() {
    return barn.copyHalf();
  }

  public int sweepLoft() {
    return barn.sweep();
  }

  // ---- steps and what would be

  public int work(int steps) throws IllegalArgumentException, IllegalStateException {
    checkWork(steps);
    return hands.goOn(barn, steps);
  }

  public int stepsUntilCopying() {
    if (plan.stepCount == 0) {
      return NONE;
    }
    trial.imitate(barn);
    for (int step = 1; step <= WORK_LIMIT; step++) {
      hands.goOn(trial, 1);
      if (trial.copied != barn.copied) {
        return step;
      }
    }
    return NONE;
  }

  public int usedAfter(int steps) throws IllegalArgumentException, IllegalStateException {
    checkWork(steps);
    trial.imitate(barn);
    hands.goOn(trial, steps);
    return trial.used;
  }

  public int usedIfCopied() {
    trial.imitate(barn);
    trial.copyHalf();
    return trial.used;
  }

  public double meanSize() {
    int count = barn.baleCount();
    if (count == 0) {
      return 0.0;
    }
    return (double) (barn.used + barn.loft.usedCount()) / (double) count;
  }

  public long digest() {
    long d = digestOfCounts();
    for (int index = 0; index < barn.rowCount; index++) {
      d = digestWithBale(d, barn.inRow(index));
    }
    for (int place = 0; place < plan.loftPlaces; place++) {
      int bale = barn.loftBaleFrom(place);
      if (bale != NONE) {
        d = digestWithBale(d, bale);
      }
    }
    for (int hook = 0; hook < plan.hookCount; hook++) {
      d = d * 31 + digestOfLead(barn.held(hook));
    }
    return d;
  }

  private void append(int number) {
    for (int shift = 24; shift >= 0; shift -= 8) {
      if (tapeLength >= 0 && tapeLength < TAPE_LIMIT) {
        tape[tapeLength] = (byte) (number >> shift);
        tapeLength++;
      }
    }
  }

  private void checkHook(int hook) {
    if (hook < 0 || hook >= plan.hookCount) {
      throw new IndexOutOfBoundsException("there is no such hook");
    }
  }

  private int heldBale(int hook) {
    checkHook(hook);
    int bale = barn.held(hook);
    if (bale == NONE) {
      throw new IllegalStateException("the hook holds no bale");
    }
    return bale;
  }

  private void checkWork(int steps) {
    if (steps < 1 || steps > WORK_LIMIT) {
      throw new IllegalArgumentException("so many steps can not go by at once");
    }
    if (plan.stepCount == 0) {
      throw new IllegalStateException("no step is told");
    }
  }

  private long digestOfCounts() {
    long d = DIGEST_START;
    d = d * 31 + hooks();
    d = d * 31 + steps();
    d = d * 31 + placesOfHalf();
    d = d * 31 + stepsGoneBy();
    d = d * 31 + stepsRefused();
    d = d * 31 + workingHalf();
    d = d * 31 + usedPlaces();
    d = d * 31 + usedInLoft();
    d = d * 31 + longestGap();
    d = d * 31 + bales();
    d = d * 31 + balesInLoft();
    d = d * 31 + barn.uselessCount();
    d = d * 31 + copyings();
    d = d * 31 + balesPromoted();
    return d * 31 + balesGone();
  }

  private long digestWithBale(long digest, int bale) {
    Bales pool = barn.pool;
    long d = digest;
    d = d * 31 + pool.place(bale);
    d = d * 31 + pool.size(bale);
    d = d * 31 + pool.age(bale);
    d = d * 31 + pool.ropes(bale);
    for (int rope = 0; rope < pool.ropes(bale); rope++) {
      d = d * 31 + digestOfLead(pool.lead(bale, rope));
    }
    return d;
  }

  private int digestOfLead(int bale) {
    if (bale == NONE) {
      return 0;
    }
    int place = 1 + barn.pool.place(bale);
    return barn.pool.liesInLoft(bale) ? place + DIGEST_LOFT : place;
  }

  /** The kinds of tokens; the reckoner's orders are told by them too. */
  private enum Sign {
    END(""), BAD(""), NUMBER(""), NAME(""), TURNED(""),
    BARN("barn"), LOFT("loft"), PROMOTE("promote"), HOOK("hook"),
    MAKE("make"), TIE("tie"), UNTIE("untie"), FOLLOW("follow"), DROP("drop"),
    ROPES("ropes"), ROPE("rope"), TO("to"), BY("by"), OF("of"), WHEN("when"),
    STEP("step"), USED("used"), FREE("free"), COPIES("copies"), BALES("bales"),
    SIZE("size"), AGE("age"), HAS("has"), SAME("same"),
    NOT("not"), AND("and"), OR("or"), MIN("min"), MAX("max"),
    OPEN("("), CLOSE(")"), OPEN_TEST("["), CLOSE_TEST("]"), SEMICOLON(";"), COMMA(","),
    PLUS("+"), MINUS("-"), TIMES("*"), OVER("/"),
    LESS("<"), GREATER(">"), EQUAL("="), AT_MOST("<="), AT_LEAST(">=");

    final String text;

    Sign(String text) {
      this.text = text;
    }
  }

  /**
   * The tokens of the tape, and behind them END, or BAD where no further token can be read. A
   * number's value is what it says, a name's value the first token with the same name.
   */
  private static final class Tokens {
    private final byte[] tape;
    private final Sign[] signs = new Sign[TOKEN_LIMIT + 1];
    private final int[] starts = new int[TOKEN_LIMIT + 1];
    private final int[] lengths = new int[TOKEN_LIMIT + 1];
    private final int[] values = new int[TOKEN_LIMIT + 1];
    private int tapeLength = 0;
    private int count = 0;

    Tokens(byte[] tape) {
      this.tape = tape;
    }

    void split(int length) {
      tapeLength = length;
      count = 0;
      int at = behindBlanks(0);
      for (int n = 0; n < TOKEN_LIMIT && at < tapeLength; n++) {
        int bytes = tokenLength(at);
        if (bytes == 0) {
          break;
        }
        add(tokenSign(at, bytes), at, bytes);
        at = behindBlanks(at + bytes);
      }
      add(at < tapeLength ? Sign.BAD : Sign.END, at, 0);
    }

    Sign sign(int token) {
      Sign sign = token >= 0 && token < count && token <= TOKEN_LIMIT ? signs[token] : null;
      return sign == null ? Sign.BAD : sign;
    }

    int position(int token) {
      return token >= 0 && token < count && token <= TOKEN_LIMIT ? starts[token] : tapeLength;
    }

    int value(int token) {
      return token >= 0 && token < count && token <= TOKEN_LIMIT ? values[token] : 0;
    }

    private void add(Sign sign, int start, int length) {
      if (count >= 0 && count <= TOKEN_LIMIT) {
        signs[count] = sign;
        starts[count] = start;
        lengths[count] = length;
        values[count] = valueOf(sign, start, length);
        count++;
      }
    }

    private int valueOf(Sign sign, int start, int length) {
      if (sign == Sign.NUMBER) {
        return numberAt(start, length);
      }
      return sign == Sign.NAME ? firstLike(start, length) : 0;
    }

    private int numberAt(int start, int length) {
      int number = 0;
      for (int i = 0; i < length; i++) {
        number = number * 10 + at(start + i) - '0';
      }
      return number;
    }

    private int firstLike(int start, int length) {
      for (int token = 0; token < count && token <= TOKEN_LIMIT; token++) {
        boolean alike = signs[token] == Sign.NAME && lengths[token] == length;
        if (alike && isSame(starts[token], start, length)) {
          return token;
        }
      }
      return count;
    }

    private boolean isSame(int a, int b, int length) {
      for (int i = 0; i < length; i++) {
        if (at(a + i) != at(b + i)) {
          return false;
        }
      }
      return true;
    }

    /** The byte at a place of the tape, or 0, with which no token begins or goes on. */
    private int at(int place) {
      return place >= 0 && place < tapeLength && place < TAPE_LIMIT ? tape[place] : 0;
    }

    private int behindBlanks(int from) {
      int place = from;
      while (place < tapeLength && (at(place) == ' ' || at(place) == '\n')) {
        place++;
      }
      return place;
    }

    /** How many bytes the token has that begins here: 0 if none does, or it is too long. */
    private int tokenLength(int start) {
      if (isLetter(at(start))) {
        return lengthWithin(wordLength(start), WORD_LIMIT);
      }
      if (isDigit(at(start))) {
        return lengthWithin(digitCount(start), DIGIT_LIMIT);
      }
      if (writtenSign(start, 2) != Sign.BAD) {
        return 2;
      }
      return writtenSign(start, 1) != Sign.BAD ? 1 : 0;
    }

    private Sign tokenSign(int start, int length) {
      if (isDigit(at(start))) {
        return Sign.NUMBER;
      }
      Sign sign = writtenSign(start, length);
      return sign == Sign.BAD ? Sign.NAME : sign;
    }

    private Sign writtenSign(int start, int length) {
      for (Sign sign : SIGNS) {
        if (sign.text.length() == length && isWritten(sign.text, start)) {
          return sign;
        }
      }
      return Sign.BAD;
    }

    private boolean isWritten(String text, int start) {
      for (int i = 0; i < text.length(); i++) {
        if (at(start + i) != text.charAt(i)) {
          return false;
        }
      }
      return true;
    }

    private int wordLength(int start) {
      int place = start;
      while (place < tapeLength && (isLetter(at(place)) || isDigit(at(place)))) {
        place++;
      }
      return place - start;
    }

    private int digitCount(int start) {
      int place = start;
      while (place < tapeLength && isDigit(at(place))) {
        place++;
      }
      return place - start;
    }

    private static int lengthWithin(int length, int limit) {
      return length <= limit ? length : 0;
    }

    private static boolean isLetter(int sign) {
      return sign >= 'a' && sign <= 'z';
    }

    private static boolean isDigit(int sign) {
      return sign >= '0' && sign <= '9';
    }
  }

  /** A told step; its sum and its test are stretches of the plan's orders. */
  private static final class Step {
    Sign kind = Sign.DROP;
    int hook = 0;
    int other = 0;
    int number = 0;
    int sumFrom = 0;
    int sumTo = 0;
    int testFrom = 0;
    int testTo = 0;

    void clear(Sign kindNow) {
      kind = kindNow;
      hook = 0;
      other = 0;
      number = 0;
      sumFrom = 0;
      sumTo = 0;
      testFrom = 0;
      testTo = 0;
    }

    boolean hasTest() {
      return testTo > testFrom;
    }
  }

  /** What is told: the barn's measures, its steps, and orders to reckon their sums and tests. */
  private static final class Plan {
    int halfPlaces = 16;
    int loftPlaces = 16;
    int promoteAge = 2;
    int hookCount = 0;
    int stepCount = 0;
    int orderCount = 0;
    private final Step[] told = new Step[STEP_LIMIT];
    private final Sign[] orders = new Sign[TOKEN_LIMIT];
    private final int[] numbers = new int[TOKEN_LIMIT];

    Plan() {
      for (int i = 0; i < STEP_LIMIT; i++) {
        told[i] = new Step();
      }
    }

    void clear() {
      halfPlaces = 16;
      loftPlaces = 16;
      promoteAge = 2;
      hookCount = 0;
      stepCount = 0;
      orderCount = 0;
    }

    /** A step too many takes the last one's place: a plan with so many is given up anyway. */
    Step addStep(Sign kind) {
      int index = Math.min(Math.max(stepCount, 0), STEP_LIMIT - 1);
      stepCount = index + 1;
      told[index].clear(kind);
      return told[index];
    }

    Step stepWith(int index) {
      return told[Math.min(Math.max(index, 0), STEP_LIMIT - 1)];
    }

    void addOrder(Sign order, int number) {
      if (orderCount >= 0 && orderCount < TOKEN_LIMIT) {
        orders[orderCount] = order;
        numbers[orderCount] = number;
        orderCount++;
      }
    }

    Sign order(int index) {
      Sign order = isOrder(index) ? orders[index] : Sign.BAD;
      return order == null ? Sign.BAD : order;
    }

    int orderNumber(int index) {
      return isOrder(index) ? numbers[index] : 0;
    }

    private boolean isOrder(int index) {
      return index >= 0 && index < orderCount && index < TOKEN_LIMIT;
    }
  }

  /** Reads the tape as a barn. Behind error 1 it sees BAD tokens only, with which nothing goes on. */
  private static final class Reader {
    private final Tokens tokens;
    private final int[] hookNames = new int[HOOK_LIMIT];
    private Plan plan;
    private int token = 0;
    private int error = 0;
    private int blamedToken = 0;

    Reader(byte[] tape, Plan into) {
      tokens = new Tokens(tape);
      plan = into;
    }

    /** Writes into the plan what the tape tells, and returns the error, or 0. */
    int read(int length, Plan into) {
      tokens.split(length);
      plan = into;
      plan.clear();
      token = 0;
      error = 0;
      for (int lines = 0; lines <= TOKEN_LIMIT && sign() != Sign.END && error != 1; lines++) {
        if (isStep(sign())) {
          readStep(sign());
        } else {
          readSetting();
        }
        take(Sign.SEMICOLON);
      }
      return error;
    }

    int position() {
      return error == 0 ? NONE : tokens.position(blamedToken);
    }

    private static boolean isStep(Sign sign) {
      return sign == Sign.MAKE || sign == Sign.TIE || sign == Sign.UNTIE
          || sign == Sign.FOLLOW || sign == Sign.DROP;
    }

    private void readSetting() {
      switch (sign()) {
        case BARN:
          token++;
          plan.halfPlaces = readNumber(LEAST_HALF, PLACE_LIMIT);
          break;
        case LOFT:
          token++;
          plan.loftPlaces = readNumber(0, PLACE_LIMIT);
          break;
        case PROMOTE:
          token++;
          plan.promoteAge = readNumber(0, PROMOTE_LIMIT);
          break;
        case HOOK:
          token++;
          readNewHook();
          break;
        default:
          fail();
          break;
      }
    }

    private void readStep(Sign kind) {
      if (plan.stepCount >= STEP_LIMIT) {
        blame(4, token);
      }
      Step step = plan.addStep(kind);
      token++;
      step.hook = readHook();
      if (kind == Sign.MAKE) {
        take(Sign.SIZE);
        step.sumFrom = plan.orderCount;
        readSum(0);
        step.sumTo = plan.orderCount;
        step.number = readRope(Sign.ROPES);
      } else if (kind == Sign.TIE) {
        step.number = readRope(Sign.ROPE);
        take(Sign.TO);
        step.other = readHook();
      } else if (kind == Sign.UNTIE) {
        step.number = readRope(Sign.ROPE);
      } else if (kind == Sign.FOLLOW) {
        take(Sign.BY);
        step.other = readHook();
        step.number = readRope(Sign.ROPE);
      }
      if (sign() == Sign.WHEN) {
        token++;
        step.testFrom = plan.orderCount;
        readTest(0);
        step.testTo = plan.orderCount;
      }
    }

    private void readTest(int depth) {
      readBoth(depth);
      for (int n = 0; n < TOKEN_LIMIT && sign() == Sign.OR; n++) {
        token++;
        readBoth(depth);
        plan.addOrder(Sign.OR, 0);
      }
    }

    private void readBoth(int depth) {
      readSingle(depth);
      for (int n = 0; n < TOKEN_LIMIT && sign() == Sign.AND; n++) {
        token++;
        readSingle(depth);
        plan.addOrder(Sign.AND, 0);
      }
    }

    private void readSingle(int depth) {
      switch (sign()) {
        case NOT:
          if (takeDeeper(depth)) {
            readSingle(depth + 1);
            plan.addOrder(Sign.NOT, 0);
          }
          break;
        case OPEN_TEST:
          if (takeDeeper(depth)) {
            readTest(depth + 1);
            take(Sign.CLOSE_TEST);
          }
          break;
        case HAS:
          token++;
          plan.addOrder(Sign.HAS, readHook());
          break;
        case SAME:
          token++;
          readSame();
          break;
        default:
          readSum(depth);
          Sign relation = sign();
          if (isRelation(relation)) {
            token++;
            readSum(depth);
            plan.addOrder(relation, 0);
          } else {
            fail();
          }
          break;
      }
    }

    private void readSame() {
      int first = readHook();
      int second = readHook();
      plan.addOrder(Sign.SAME, first * HOOK_LIMIT + second);
    }

    private static boolean isRelation(Sign sign) {
      return sign == Sign.LESS || sign == Sign.GREATER || sign == Sign.EQUAL
          || sign == Sign.AT_MOST || sign == Sign.AT_LEAST;
    }

    private void readSum(int depth) {
      readProduct(depth);
      for (int n = 0; n < TOKEN_LIMIT && (sign() == Sign.PLUS || sign() == Sign.MINUS); n++) {
        Sign order = sign();
        token++;
        readProduct(depth);
        plan.addOrder(order, 0);
      }
    }

    private void readProduct(int depth) {
      readValue(depth);
      for (int n = 0; n < TOKEN_LIMIT && (sign() == Sign.TIMES || sign() == Sign.OVER); n++) {
        Sign order = sign();
        token++;
        readValue(depth);
        plan.addOrder(order, 0);
      }
    }

    private void readValue(int depth) {
      Sign sign = sign();
      switch (sign) {
        case NUMBER:
          plan.addOrder(sign, tokens.value(token));
          token++;
          break;
        case STEP:
        case USED:
        case FREE:
        case COPIES:
        case BALES:
          plan.addOrder(sign, 0);
          token++;
          break;
        case SIZE:
        case AGE:
          token++;
          take(Sign.OF);
          plan.addOrder(sign, readHook());
          break;
        case MINUS:
          if (takeDeeper(depth)) {
            readValue(depth + 1);
            plan.addOrder(Sign.TURNED, 0);
          }
          break;
        case OPEN:
          if (takeDeeper(depth)) {
            readSum(depth + 1);
            take(Sign.CLOSE);
          }
          break;
        case MIN:
        case MAX:
          token++;
          readPair(sign, depth);
          break;
        default:
          fail();
          break;
      }
    }

    private void readPair(Sign order, int depth) {
      if (sign() != Sign.OPEN) {
        fail();
      } else if (takeDeeper(depth)) {
        readSum(depth + 1);
        take(Sign.COMMA);
        readSum(depth + 1);
        take(Sign.CLOSE);
        plan.addOrder(order, 0);
      }
    }

    private int readNumber(int least, int most) {
      if (!take(Sign.NUMBER)) {
        return least;
      }
      int number = tokens.value(token - 1);
      if (number < least || number > most) {
        blame(5, token - 1);
        return least;
      }
      return number;
    }

    private int readRope(Sign before) {
      take(before);
      return readNumber(0, ROPE_LIMIT);
    }

    private void readNewHook() {
      if (!take(Sign.NAME)) {
        return;
      }
      int name = tokens.value(token - 1);
      int count = plan.hookCount;
      if (hookNamed(name) != NONE) {
        blame(2, token - 1);
      } else if (count < 0 || count >= HOOK_LIMIT) {
        blame(4, token - 1);
      } else {
        hookNames[count] = name;
        plan.hookCount = count + 1;
      }
    }

    private int readHook() {
      if (sign() != Sign.NAME) {
        fail();
        return 0;
      }
      int hook = hookNamed(tokens.value(token));
      if (hook == NONE) {
        blame(3, token);
      }
      token++;
      return Math.max(hook, 0);
    }

    private int hookNamed(int name) {
      for (int hook = 0; hook < plan.hookCount && hook < HOOK_LIMIT; hook++) {
        if (hookNames[hook] == name) {
          return hook;
        }
      }
      return NONE;
    }

    private Sign sign() {
      return error == 1 ? Sign.BAD : tokens.sign(token);
    }

    private boolean take(Sign wanted) {
      if (sign() != wanted) {
        fail();
        return false;
      }
      token++;
      return true;
    }

    private boolean takeDeeper(int depth) {
      if (depth >= DEPTH_LIMIT) {
        fail();
        return false;
      }
      token++;
      return true;
    }

    private void fail() {
      if (error != 1) {
        error = 1;
        blamedToken = token;
      }
    }

    /** Keeps the first of the errors 2 to 5; error 1 further on takes its place. */
    private void blame(int number, int atToken) {
      if (error == 0) {
        error = number;
        blamedToken = atToken;
      }
    }
  }

  /** All bales, by numbers: a bale keeps its number until it is gone, wherever it lies. */
  private static final class Bales {
    private static final int GONE = 0;
    private static final int IN_HALF = 1;
    private static final int IN_LOFT = 2;

    private final int[] lying = new int[BALE_LIMIT];
    private final int[] places = new int[BALE_LIMIT];
    private final int[] sizes = new int[BALE_LIMIT];
    private final int[] ages = new int[BALE_LIMIT];
    private final int[] ropeCounts = new int[BALE_LIMIT];
    private final int[] leads = new int[BALE_LIMIT * ROPE_LIMIT];

    void clear() {
      Arrays.fill(lying, GONE);
    }

    void imitate(Bales other) {
      System.arraycopy(other.lying, 0, lying, 0, BALE_LIMIT);
      System.arraycopy(other.places, 0, places, 0, BALE_LIMIT);
      System.arraycopy(other.sizes, 0, sizes, 0, BALE_LIMIT);
      System.arraycopy(other.ages, 0, ages, 0, BALE_LIMIT);
      System.arraycopy(other.ropeCounts, 0, ropeCounts, 0, BALE_LIMIT);
      System.arraycopy(other.leads, 0, leads, 0, BALE_LIMIT * ROPE_LIMIT);
    }

    /** A new bale in the working half; NONE if there are too many, which the places forbid. */
    int add(int place, int size, int ropeCount) {
      for (int bale = 0; bale < BALE_LIMIT; bale++) {
        if (lying[bale] == GONE) {
          lying[bale] = IN_HALF;
          places[bale] = place;
          sizes[bale] = size;
          ages[bale] = 0;
          ropeCounts[bale] = ropeCount;
          for (int rope = 0; rope < ROPE_LIMIT; rope++) {
            leads[bale * ROPE_LIMIT + rope] = NONE;
          }
          return bale;
        }
      }
      return NONE;
    }

    void remove(int bale) {
      if (bale >= 0 && bale < BALE_LIMIT) {
        lying[bale] = GONE;
      }
    }

    void copyTo(int bale, int place) {
      if (bale >= 0 && bale < BALE_LIMIT) {
        places[bale] = place;
        ages[bale]++;
      }
    }

    void promoteTo(int bale, int place) {
      if (bale >= 0 && bale < BALE_LIMIT) {
        places[bale] = place;
        lying[bale] = IN_LOFT;
      }
    }

    boolean isGone(int bale) {
      return bale < 0 || bale >= BALE_LIMIT || lying[bale] == GONE;
    }

    boolean liesInHalf(int bale) {
      return bale >= 0 && bale < BALE_LIMIT && lying[bale] == IN_HALF;
    }

    boolean liesInLoft(int bale) {
      return bale >= 0 && bale < BALE_LIMIT && lying[bale] == IN_LOFT;
    }

    int place(int bale) {
      return bale >= 0 && bale < BALE_LIMIT ? places[bale] : 0;
    }

    int size(int bale) {
      return bale >= 0 && bale < BALE_LIMIT ? sizes[bale] : 0;
    }

    int age(int bale) {
      return bale >= 0 && bale < BALE_LIMIT ? ages[bale] : 0;
    }

    int ropes(int bale) {
      return bale >= 0 && bale < BALE_LIMIT ? ropeCounts[bale] : 0;
    }

    boolean hasRope(int bale, int rope) {
      return bale >= 0 && bale < BALE_LIMIT && rope >= 0 && rope < ROPE_LIMIT
          && rope < ropeCounts[bale];
    }

    int lead(int bale, int rope) {
      return hasRope(bale, rope) ? leads[bale * ROPE_LIMIT + rope] : NONE;
    }

    int leadCount(int bale) {
      int count = 0;
      for (int rope = 0; rope < ropes(bale); rope++) {
        if (lead(bale, rope) != NONE) {
          count++;
        }
      }
      return count;
    }

    void setLead(int bale, int rope, int to) {
      if (hasRope(bale, rope)) {
        leads[bale * ROPE_LIMIT + rope] = to;
      }
    }

    void untieFromGone() {
      for (int bale = 0; bale < BALE_LIMIT; bale++) {
        for (int rope = 0; rope < ropes(bale); rope++) {
          if (isGone(lead(bale, rope))) {
            setLead(bale, rope, NONE);
          }
        }
      }
    }
  }

  /** Bales one behind the other, each one once, and by how many ropes each was reached. */
  private static final class Line {
    private final int[] row = new int[BALE_LIMIT];
    private final int[] ropes = new int[BALE_LIMIT];
    private int count = 0;

    void clear() {
      Arrays.fill(ropes, NONE);
      count = 0;
    }

    boolean add(int bale, int ropesAway) {
      if (bale < 0 || bale >= BALE_LIMIT || count < 0 || count >= BALE_LIMIT) {
        return false;
      }
      if (ropes[bale] != NONE) {
        return false;
      }
      ropes[bale] = ropesAway;
      row[count] = bale;
      count++;
      return true;
    }

    boolean has(int bale) {
      return bale >= 0 && bale < BALE_LIMIT && ropes[bale] != NONE;
    }

    int ropesTo(int bale) {
      return bale >= 0 && bale < BALE_LIMIT ? ropes[bale] : NONE;
    }

    int at(int index) {
      return index >= 0 && index < count && index < BALE_LIMIT ? row[index] : NONE;
    }

    int length() {
      return count;
    }
  }

  /** The loft's places: at each one the bale that lies there, or NONE. */
  private static final class Loft {
    private final int[] row = new int[PLACE_LIMIT];
    private int length = 0;
    int baleCount = 0;

    void clear(int places) {
      Arrays.fill(row, NONE);
      length = Math.min(Math.max(places, 0), PLACE_LIMIT);
      baleCount = 0;
    }

    void imitate(Loft other) {
      System.arraycopy(other.row, 0, row, 0, PLACE_LIMIT);
      length = other.length;
      baleCount = other.baleCount;
    }

    int at(int place) {
      return place >= 0 && place < length && place < PLACE_LIMIT ? row[place] : NONE;
    }

    /** Lays a bale at empty places; NONE takes away the one that lies there. */
    void lay(int bale, int from, int size) {
      for (int i = 0; i < size; i++) {
        int place = from + i;
        if (place >= 0 && place < length && place < PLACE_LIMIT) {
          row[place] = bale;
        }
      }
      baleCount += bale == NONE ? -1 : 1;
    }

    /** The beginning of the first gap that is wide enough, or NONE. */
    int gapFor(int size) {
      int empty = 0;
      for (int place = 0; place < length && place < PLACE_LIMIT; place++) {
        empty = row[place] == NONE ? empty + 1 : 0;
        if (empty >= size) {
          return place + 1 - empty;
        }
      }
      return NONE;
    }

    int widestGap() {
      int widest = 0;
      int empty = 0;
      for (int place = 0; place < length; place++) {
        empty = at(place) == NONE ? empty + 1 : 0;
        widest = Math.max(widest, empty);
      }
      return widest;
    }

    int usedCount() {
      int count = 0;
      for (int place = 0; place < length; place++) {
        if (at(place) != NONE) {
          count++;
        }
      }
      return count;
    }
  }

  /** The state of the barn: where bales lie, what hooks hold, and what has been counted. */
  private static final class Barn {
    final Bales pool = new Bales();
    final Loft loft = new Loft();
    private final Line line = new Line();
    private final int[] hookBales = new int[HOOK_LIMIT];
    private int[] row = new int[PLACE_LIMIT];
    private int[] oldRow = new int[PLACE_LIMIT];
    Plan plan;
    int rowCount = 0;
    int used = 0;
    int working = 0;
    int stepsGone = 0;
    int refused = 0;
    int copied = 0;
    int promoted = 0;
    int gone = 0;

    Barn(Plan told) {
      plan = told;
      begin(told);
    }

    void begin(Plan told) {
      plan = told;
      pool.clear();
      loft.clear(told.loftPlaces);
      Arrays.fill(hookBales, NONE);
      rowCount = 0;
      used = 0;
      working = 0;
      stepsGone = 0;
      refused = 0;
      copied = 0;
      promoted = 0;
      gone = 0;
    }

    void imitate(Barn other) {
      plan = other.plan;
      pool.imitate(other.pool);
      loft.imitate(other.loft);
      System.arraycopy(other.hookBales, 0, hookBales, 0, HOOK_LIMIT);
      System.arraycopy(other.row, 0, row, 0, PLACE_LIMIT);
      rowCount = other.rowCount;
      used = other.used;
      working = other.working;
      stepsGone = other.stepsGone;
      refused = other.refused;
      copied = other.copied;
      promoted = other.promoted;
      gone = other.gone;
    }

    int held(int hook) {
      return hook >= 0 && hook < HOOK_LIMIT ? hookBales[hook] : NONE;
    }

    boolean sameHeld(int a, int b) {
      return a >= 0 && a < HOOK_LIMIT && b >= 0 && b < HOOK_LIMIT
          && hookBales[a] != NONE && hookBales[a] == hookBales[b];
    }

    int inRow(int index) {
      return index >= 0 && index < rowCount && index < PLACE_LIMIT ? row[index] : NONE;
    }

    /** The bale of the loft of which this is the place, or NONE. */
    int loftBaleFrom(int place) {
      int bale = loft.at(place);
      return bale != NONE && pool.place(bale) == place ? bale : NONE;
    }

    int baleCount() {
      return rowCount + loft.baleCount;
    }

    int freePlaces() {
      return plan.halfPlaces - used;
    }

    int uselessCount() {
      findReached();
      return baleCount() - line.length();
    }

    int ropesAway(int from, int to) {
      line.clear();
      line.add(from, 0);
      followLine();
      return line.ropesTo(to);
    }

    /** Makes a bale that the hook holds then, and says whether there was room for it. */
    boolean makeBale(int hook, int size, int ropes) {
      if (freePlaces() < size) {
        copyHalf();
      }
      if (freePlaces() < size) {
        return false;
      }
      int bale = pool.add(used, size, ropes);
      if (bale == NONE) {
        return false;
      }
      hold(hook, bale);
      layInRow(bale, size);
      return true;
    }

    boolean tieRope(int hook, int rope, int to) {
      int bale = held(hook);
      if (held(to) == NONE || !pool.hasRope(bale, rope)) {
        return false;
      }
      pool.setLead(bale, rope, held(to));
      return true;
    }

    boolean untieRope(int hook, int rope) {
      int bale = held(hook);
      if (!pool.hasRope(bale, rope)) {
        return false;
      }
      pool.setLead(bale, rope, NONE);
      return true;
    }

    boolean followRope(int hook, int of, int rope) {
      int bale = pool.lead(held(of), rope);
      if (bale == NONE) {
        return false;
      }
      hold(hook, bale);
      return true;
    }

    boolean dropBale(int hook) {
      if (held(hook) == NONE) {
        return false;
      }
      hold(hook, NONE);
      return true;
    }

    /** Copies what must stay into the other half, and returns how many bales are gone by it. */
    int copyHalf() {
      int[] former = row;
      int formerCount = rowCount;
      row = oldRow;
      oldRow = former;
      rowCount = 0;
      used = 0;
      working = 1 - working;
      copied++;
      line.clear();
      for (int hook = 0; hook < HOOK_LIMIT; hook++) {
        takeOver(held(hook));
      }
      for (int place = 0; place < plan.loftPlaces; place++) {
        int bale = loftBaleFrom(place);
        // The line has those that came into the loft just now: their turn is below.
        for (int rope = 0; rope < pool.ropes(bale) && !line.has(bale); rope++) {
          takeOver(pool.lead(bale, rope));
        }
      }
      for (int i = 0; i < BALE_LIMIT && i < line.length(); i++) {
        int bale = line.at(i);
        for (int rope = 0; rope < pool.ropes(bale); rope++) {
          takeOver(pool.lead(bale, rope));
        }
      }
      return loseRest(former, formerCount);
    }

    /** Lets the useless bales of the loft be gone, and returns how many they are. */
    int sweep() {
      findReached();
      int lost = 0;
      for (int place = 0; place < plan.loftPlaces; place++) {
        int bale = loftBaleFrom(place);
        if (bale != NONE && !line.has(bale)) {
          loft.lay(NONE, place, pool.size(bale));
          pool.remove(bale);
          lost++;
        }
      }
      pool.untieFromGone();
      gone += lost;
      return lost;
    }

    private void hold(int hook, int bale) {
      if (hook >= 0 && hook < HOOK_LIMIT) {
        hookBales[hook] = bale;
      }
    }

    private int loseRest(int[] former, int count) {
      int lost = 0;
      for (int i = 0; i < count && i < former.length; i++) {
        if (!line.has(former[i])) {
          pool.remove(former[i]);
          lost++;
        }
      }
      gone += lost;
      return lost;
    }

    private void layInRow(int bale, int size) {
      if (rowCount >= 0 && rowCount < PLACE_LIMIT) {
        row[rowCount] = bale;
        rowCount++;
        used += size;
      }
    }

    private void findReached() {
      line.clear();
      for (int hook = 0; hook < HOOK_LIMIT; hook++) {
        line.add(held(hook), 0);
      }
      followLine();
    }

    private void followLine() {
      for (int i = 0; i < BALE_LIMIT && i < line.length(); i++) {
        int bale = line.at(i);
        for (int rope = 0; rope < pool.ropes(bale); rope++) {
          line.add(pool.lead(bale, rope), line.ropesTo(bale) + 1);
        }
      }
    }

    /** Takes a bale of the old half over, once: the line has those that are taken over. */
    private void takeOver(int bale) {
      if (!pool.liesInHalf(bale) || !line.add(bale, 0)) {
        return;
      }
      int size = pool.size(bale);
      int gap = pool.age(bale) >= plan.promoteAge ? loft.gapFor(size) : NONE;
      if (gap == NONE) {
        pool.copyTo(bale, used);
        layInRow(bale, size);
      } else {
        pool.promoteTo(bale, gap);
        loft.lay(bale, gap, size);
        promoted++;
      }
    }
  }

  /** Reckons sums and tests by a plan's orders; a test is 1 if it holds, otherwise 0. */
  private static final class Reckoner {
    private final int[] stack = new int[TOKEN_LIMIT];
    private int height = 0;

    int reckon(Barn barn, int from, int to) {
      height = 0;
      for (int i = 0; i < TOKEN_LIMIT && from + i < to; i++) {
        obey(barn, barn.plan.order(from + i), barn.plan.orderNumber(from + i));
      }
      return pop();
    }

    private void obey(Barn barn, Sign order, int number) {
      switch (order) {
        case TURNED:
          push(-pop());
          break;
        case NOT:
          push(1 - pop());
          break;
        case NUMBER:
        case STEP:
        case USED:
        case FREE:
        case COPIES:
        case BALES:
        case SIZE:
        case AGE:
        case HAS:
        case SAME:
          push(value(barn, order, number));
          break;
        default:
          int right = pop();
          push(joined(order, pop(), right));
          break;
      }
    }

    private static int value(Barn barn, Sign order, int number) {
      switch (order) {
        case NUMBER:
          return number;
        case STEP:
          return barn.stepsGone;
        case USED:
          return barn.used;
        case FREE:
          return barn.freePlaces();
        case COPIES:
          return barn.copied;
        case BALES:
          return barn.baleCount();
        case SIZE:
          return barn.pool.size(barn.held(number));
        case AGE:
          return barn.pool.age(barn.held(number));
        case HAS:
          return one(barn.held(number) != NONE);
        default:
          return one(barn.sameHeld(number / HOOK_LIMIT, number % HOOK_LIMIT));
      }
    }

    private static int joined(Sign order, int left, int right) {
      switch (order) {
        case PLUS:
          return left + right;
        case MINUS:
          return left - right;
        case TIMES:
          return left * right;
        case OVER:
          return right == 0 ? 0 : left / right;
        case MIN:
          return Math.min(left, right);
        case MAX:
          return Math.max(left, right);
        case LESS:
          return one(left < right);
        case GREATER:
          return one(left > right);
        case EQUAL:
          return one(left == right);
        case AT_MOST:
          return one(left <= right);
        case AT_LEAST:
          return one(left >= right);
        case AND:
          return left & right;
        case OR:
          return left | right;
        default:
          return 0;
      }
    }

    private static int one(boolean holds) {
      return holds ? 1 : 0;
    }

    private void push(int number) {
      if (height >= 0 && height < TOKEN_LIMIT) {
        stack[height] = number;
        height++;
      }
    }

    private int pop() {
      if (height <= 0 || height > TOKEN_LIMIT) {
        return 0;
      }
      height--;
      return stack[height];
    }
  }

  /** Hands that do the steps of a barn's plan. */
  private static final class Hands {
    private final Reckoner reckoner = new Reckoner();

    /** Lets steps go by, and returns how many of them are done. */
    int goOn(Barn barn, int count) {
      int done = 0;
      for (int i = 0; i < count; i++) {
        if (passNext(barn)) {
          done++;
        }
      }
      return done;
    }

    private boolean passNext(Barn barn) {
      int count = barn.plan.stepCount;
      if (count <= 0) {
        return false;
      }
      Step step = barn.plan.stepWith(barn.stepsGone % count);
      boolean due = !step.hasTest() || reckoner.reckon(barn, step.testFrom, step.testTo) == 1;
      boolean done = due && perform(barn, step);
      if (due && !done) {
        barn.refused++;
      }
      barn.stepsGone++;
      return done;
    }

    private boolean perform(Barn barn, Step step) {
      switch (step.kind) {
        case MAKE:
          int sum = reckoner.reckon(barn, step.sumFrom, step.sumTo);
          return barn.makeBale(step.hook, Math.min(Math.max(sum, 1), SIZE_LIMIT), step.number);
        case TIE:
          return barn.tieRope(step.hook, step.number, step.other);
        case UNTIE:
          return barn.untieRope(step.hook, step.number);
        case FOLLOW:
          return barn.followRope(step.hook, step.other, step.number);
        default:
          return barn.dropBale(step.hook);
      }
    }
  }
}
