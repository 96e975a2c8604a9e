/** Promises 1 to 8: the tape, teach, its errors, and what is told. */
public final class LanguageTest {
  public static void main(String[] args) {
    newObject();
    feedAndTrim();
    teachAndCounts();
    settings();
    tokens();
    grammar();
    ends();
    depth();
    tokenLimit();
    laterErrors();
    orderOfErrors();
    errorsKeepAll();
    Check.end("LanguageTest");
  }

  private static void newObject() {
    HayBarn x = new HayBarn();
    Check.due("new hooks", x.hooks(), 0);
    Check.due("new steps", x.steps(), 0);
    Check.due("new placesOfHalf", x.placesOfHalf(), 16);
    Check.due("new longestGap", x.longestGap(), 16);
    Check.due("new bales", x.bales(), 0);
    Check.due("new errorAt", x.errorAt(), -1);
    Check.due("new copyings", x.copyings(), 0);
    Check.due("new workingHalf", x.workingHalf(), 0);
    Check.due("new stepsGoneBy", x.stepsGoneBy(), 0);
    Check.noArgument("new trim(1)", () -> x.trim(1));
    Check.due("new trim(0)", x.trim(0), 0);
  }

  private static void feedAndTrim() {
    HayBarn x = new HayBarn();
    for (int i = 1; i <= 100; i++) {
      Check.due("feed " + i, x.feed(-1, Integer.MIN_VALUE, i, 0, 7), 20 * i);
    }
    Check.noState("feed 101", () -> x.feed(0, 0, 0, 0, 0));
    Check.noArgument("trim(2001)", () -> x.trim(2001));
    Check.noArgument("trim(-1)", () -> x.trim(-1));
    Check.due("trim(2000)", x.trim(2000), 2000);
    Check.due("trim(1981)", x.trim(1981), 1981);
    Check.noState("feed behind 1981", () -> x.feed(0, 0, 0, 0, 0));
    Check.noArgument("trim(1982)", () -> x.trim(1982));
    Check.due("trim(1980)", x.trim(1980), 1980);
    Check.due("feed behind 1980", x.feed(0, 0, 0, 0, 0), 2000);
    Check.due("teach of what is no barn", x.teach(), 1);
    Check.due("errorAt of what is no barn", x.errorAt(), 0);
    Check.noArgument("trim(1) behind teach", () -> x.trim(1));
    Check.due("trim(0) behind teach", x.trim(0), 0);
    HayBarn y = new HayBarn();
    // The highest byte comes first: "barn", " 20;".
    y.feed(0x6261726e, 0x2032303b, 0x20202020, 0x20202020, 0x20202020);
    Check.due("teach of barn 20;", y.teach(), 0);
    Check.due("placesOfHalf of barn 20;", y.placesOfHalf(), 20);
  }

  private static void teachAndCounts() {
    HayBarn x = Check.taught("hook a;hook b; drop a; drop b; drop a;");
    Check.due("hooks told", x.hooks(), 2);
    Check.due("steps told", x.steps(), 3);
    x.make(0, 3, 1);
    x.work(2);
    x.copyNow();
    Check.due("teach anew", Check.teach(x, "hook c; make c size 1 ropes 0;"), 0);
    Check.due("hooks anew", x.hooks(), 1);
    Check.due("steps anew", x.steps(), 1);
    Check.due("stepsGoneBy anew", x.stepsGoneBy(), 0);
    Check.due("stepsRefused anew", x.stepsRefused(), 0);
    Check.due("workingHalf anew", x.workingHalf(), 0);
    Check.due("copyings anew", x.copyings(), 0);
    Check.due("bales anew", x.bales(), 0);
    Check.due("balesGone anew", x.balesGone(), 0);
    Check.due("holdsBale anew", x.holdsBale(0), false);
    Check.due("teach of nothing", x.teach(), 0);
    Check.due("hooks of nothing", x.hooks(), 0);
    Check.due("steps of nothing", x.steps(), 0);
    Check.due("teach of blanks", Check.teach(x, " \n \n"), 0);
  }

  private static void settings() {
    Check.due("placesOfHalf 8", Check.taught("barn 8;").placesOfHalf(), 8);
    Check.due("placesOfHalf 64", Check.taught("barn 64;").placesOfHalf(), 64);
    Check.due("the latest barn", Check.taught("barn 64; barn 000009; loft 3;").placesOfHalf(), 9);
    Check.due("the latest loft", Check.taught("loft 64; loft 0;").longestGap(), 0);
    Check.due("loft 64", Check.taught("loft 64;").longestGap(), 64);
    Check.due("loft without one", Check.taught("barn 20;").longestGap(), 16);
    Check.due("half without one", Check.taught("loft 20;").placesOfHalf(), 16);
    HayBarn x = Check.taught("promote 5; promote 1; hook a;");
    x.make(0, 1, 0);
    x.copyNow();
    Check.due("not promoted by the 1st copying", x.isInLoft(0), false);
    x.copyNow();
    Check.due("promoted by the 2nd copying", x.isInLoft(0), true);
    HayBarn y = Check.taught("hook a;");
    y.make(0, 1, 0);
    y.copyNow();
    y.copyNow();
    Check.due("not promoted by the 2nd copying", y.isInLoft(0), false);
    y.copyNow();
    Check.due("promoted by the 3rd copying", y.isInLoft(0), true);
  }

  private static void error(String text, int error, int at) {
    Check.error(text, error, at);
  }

  private static void fine(String text) {
    Check.fine(text);
  }

  private static void tokens() {
    fine("barn\n8;\nhook a1b2c3d4e5;");
    error("hook a1b2c3d4e5f;", 1, 5);
    error("hook abcdefghijk;", 1, 5);
    fine("hook a; make a size 999999 ropes 000003;");
    error("hook a; make a size 1000000 ropes 1;", 1, 20);
    error("barn 0000008;", 1, 5);
    error("barn8;", 1, 0);
    fine("barn 8;loft 9;promote 0;hook b;drop b;");
    fine("hook a;make a size 1ropes 2when 1<2;");
    error("hook 1a;", 1, 5);
    error("hook A;", 1, 5);
    error("hook a_;", 1, 6);
    error("barn\t8;", 1, 4);
    error("barn\r8;", 1, 4);
    error("barn 8;\u0000", 1, 7);
    error("barn 8;\u0080", 1, 7);
    error("barn 8;\u00e1", 1, 7);
    error("hook \u00ff;", 1, 5);
    error("{barn 8;", 1, 0);
    error("hook a; drop a when 1 < = 2;", 1, 24);
    fine("hook a; drop a when 1 <= 2 and 1>=2 or 1<2 and 1>2 or 1=2;");
    error("hook a; drop a when 1 => 2;", 1, 23);
    error("hook a; drop a when 1 == 2;", 1, 23);
    error("hook a; drop a when 1 <> 2;", 1, 23);
    fine("hook hooks; hook a; hook bar; hook barns;");
    error("hooka;", 1, 0);
  }

  private static void grammar() {
    for (String word : new String[] {"barn", "loft", "promote", "hook", "make", "size", "ropes",
        "tie", "rope", "to", "untie", "follow", "by", "of", "drop", "when", "step", "used", "free",
        "copies", "bales", "age", "has", "same", "not", "and", "or", "min", "max"}) {
      error("hook " + word + ";", 1, 5);
    }
    error("barn a;", 1, 5);
    error("loft;", 1, 4);
    error("promote -1;", 1, 8);
    error("8;", 1, 0);
    error(";", 1, 0);
    error("barn 8;;", 1, 7);
    error("barn 8 loft 9;", 1, 7);
    error("hook a; barn 8 when 1 = 1;", 1, 15);
    error("hook a; make a size ropes 1;", 1, 20);
    error("hook a; make a size 1 rope 1;", 1, 22);
    error("hook a; make a ropes 1 size 1;", 1, 15);
    error("hook a; make a size 1 ropes 1 + 1;", 1, 30);
    error("hook a; tie a rope 0 a;", 1, 21);
    error("hook a; tie a ropes 0 to a;", 1, 14);
    error("hook a; tie a rope 0;", 1, 20);
    error("hook a; untie a rope 0 to a;", 1, 23);
    error("hook a; follow a rope 0 by a;", 1, 17);
    error("hook a; follow a by a;", 1, 21);
    error("hook a; drop;", 1, 12);
    error("hook a; drop a when;", 1, 19);
    error("hook a; drop a when 1;", 1, 21);
    error("hook a; drop a when a;", 1, 20);
    error("hook a; drop a when has;", 1, 23);
    error("hook a; drop a when has 1;", 1, 24);
    error("hook a; drop a when same a;", 1, 26);
    error("hook a; drop a when (has a);", 1, 21);
    error("hook a; drop a when [1];", 1, 22);
    error("hook a; drop a when [1 = 1;", 1, 26);
    error("hook a; drop a when [1 = 1];;", 1, 28);
    error("hook a; drop a when 1 = 1 = 1;", 1, 26);
    error("hook a; drop a when (1 = 1);", 1, 23);
    error("hook a; drop a when [1 + 1] = 2;", 1, 26);
    error("hook a; drop a when 1 = 1 and;", 1, 29);
    error("hook a; drop a when and 1 = 1;", 1, 20);
    error("hook a; drop a when 1 = not 1;", 1, 24);
    error("hook a; drop a when size a = 1;", 1, 25);
    error("hook a; drop a when size of 1 = 1;", 1, 28);
    error("hook a; drop a when min 1, 2 = 1;", 1, 24);
    error("hook a; drop a when min(1) = 1;", 1, 25);
    error("hook a; drop a when min(1, 2, 3) = 1;", 1, 28);
    error("hook a; drop a when 1 + = 1;", 1, 24);
    error("hook a; drop a when + 1 = 1;", 1, 20);
    error("hook a; drop a when 1 * / 1 = 1;", 1, 24);
    fine("hook a; drop a when 1 * - 1 = - - 1 - - - 1;");
    fine("hook a; drop a when not not [not has a or same a a] and min(max(1, step), used) < free;");
    fine("hook a; make a size size of a + age of a * bales / copies - step ropes 0 when has a;");
  }

  private static void ends() {
    error("barn", 1, 4);
    error("barn 8", 1, 6);
    error("barn 8 \n ", 1, 9);
    error("barn 8; hook", 1, 12);
    error("hook a; drop a when 1 <", 1, 23);
    fine("barn 8; \n ");
  }

  private static String repeated(String text, int times) {
    return text.repeat(times);
  }

  private static void depth() {
    String start = "hook a; drop a when ";
    fine(start + repeated("(", 8) + "1" + repeated(")", 8) + " = 1;");
    error(start + repeated("(", 9) + "1" + repeated(")", 9) + " = 1;", 1, 28);
    fine(start + repeated("-", 8) + "1 = 1;");
    error(start + repeated("-", 9) + "1 = 1;", 1, 28);
    fine(start + repeated("[", 8) + "1 = 1" + repeated("]", 8) + ";");
    error(start + repeated("[", 9) + "1 = 1" + repeated("]", 9) + ";", 1, 28);
    fine(start + repeated("not ", 8) + "1 = 1;");
    error(start + repeated("not ", 9) + "1 = 1;", 1, 52);
    fine(start + repeated("min(", 8) + "1" + repeated(",1)", 8) + " = 1;");
    error(start + repeated("min(", 9) + "1" + repeated(",1)", 9) + " = 1;", 1, 55);
    fine(start + "not [not [not (-1) = (1)] or 1 = 1] and ((((((((1)))))))) = 1;");
    error(start + "not [not [not (-(-(1))) = 1]];", 1, 37);
    // Behind what a not turns, and behind what a - turns, the depth is what it was.
    fine(start + "not 1 = 1 and " + repeated("(", 8) + "1" + repeated(")", 8) + " = 1;");
    error(start + "not 1 = " + repeated("(", 8) + "1" + repeated(")", 8) + ";", 1, 35);
    fine(start + "-1 + " + repeated("(", 8) + "1" + repeated(")", 8) + " = 1;");
    error("hook a; make a size -(" + repeated("(", 7) + "1", 1, 28);
  }

  private static void tokenLimit() {
    // 3 for the hook, 7 for the step and its end, 2 for each further number: 400 in all.
    String sum = "hook a;make a size 1" + repeated("+1", 195);
    fine(sum + " ropes 1; ");
    error(sum + "\n ropes 1;barn 8;", 1, sum.length() + 10);
    error(sum + "+1 ropes 1;", 1, sum.length() + 9);
    error(sum + "+1 ropes", 1, sum.length() + 8);
    error(sum + "+1+1+1+1", 1, sum.length() + 3);
    error(sum + " ropes 1;\t", 1, sum.length() + 9);
  }

  private static void laterErrors() {
    error("hook a; hook b; hook a;", 2, 21);
    error("drop a; hook a;", 3, 5);
    error("hook a; tie b rope 0 to a;", 3, 12);
    error("hook a; tie a rope 0 to b;", 3, 24);
    error("hook a; untie b rope 0;", 3, 14);
    error("hook a; follow b by a rope 0;", 3, 15);
    error("hook a; follow a by b rope 0;", 3, 20);
    error("hook a; make b size 1 ropes 0;", 3, 13);
    error("hook a; make a size size of b ropes 0;", 3, 28);
    error("hook a; make a size age of b ropes 0;", 3, 27);
    error("hook a; drop a when has b;", 3, 24);
    error("hook a; drop a when same a b;", 3, 27);
    error("hook a; drop a when same b a;", 3, 25);
    fine("hook a;hook b;hook c;hook d;hook e;hook f;");
    error("hook a;hook b;hook c;hook d;hook e;hook f;hook g;", 4, 47);
    error("hook a;hook b;hook c;hook d;hook e;hook f;hook a;", 2, 47);
    fine("hook a;" + repeated("drop a;", 20));
    error("hook a;" + repeated("drop a;", 21), 4, 147);
    error("hook a;" + repeated("drop a;", 20) + "make b size 1 ropes 9;", 4, 147);
    error("barn 7;", 5, 5);
    error("barn 65;", 5, 5);
    error("loft 65;", 5, 5);
    error("promote 6;", 5, 8);
    fine("promote 5;");
    error("barn 8; barn 999999; barn 8;", 5, 13);
    error("hook a; make a size 1 ropes 4;", 5, 28);
    error("hook a; tie a rope 4 to a;", 5, 19);
    error("hook a; untie a rope 4;", 5, 21);
    error("hook a; follow a by a rope 4;", 5, 27);
    fine("hook a;make a size 0 ropes 0;tie a rope 3 to a;untie a rope 3;follow a by a rope 3;");
  }

  private static void orderOfErrors() {
    error("barn 7; hook a; hook a;", 5, 5);
    error("hook a; hook a; barn 7;", 2, 13);
    error("drop a; barn 7;", 3, 5);
    error("hook a; tie b rope 4 to c;", 3, 12);
    error("hook a; tie a rope 4 to c;", 5, 19);
    error("barn 7; hook a; hook", 1, 20);
    error("barn 7; hook a; hook a; drop b; ;", 1, 32);
    error("hook a; hook a; hook Z;", 1, 21);
  }

  private static void errorsKeepAll() {
    HayBarn x = Check.taught("barn 9; loft 4; hook a; make a size 2 ropes 1; drop a;");
    x.work(1);
    x.make(0, 3, 2);
    long digest = x.digest();
    Check.due("an error keeps all", Check.teach(x, "barn 20; hook b; hook c; drop d;"), 3);
    Check.due("errorAt of it", x.errorAt(), 30);
    Check.due("digest behind it", x.digest(), digest);
    Check.due("placesOfHalf behind it", x.placesOfHalf(), 9);
    Check.due("the tape is empty behind it", x.feed(0, 0, 0, 0, 0), 20);
    Check.due("an error 1 keeps all", x.teach(), 1);
    Check.due("digest behind error 1", x.digest(), digest);
    x.work(1);
    Check.due("it goes on behind errors", x.holdsBale(0), false);
    Check.due("teach without error", Check.teach(x, "hook b;"), 0);
    Check.due("errorAt is forgotten", x.errorAt(), -1);
  }
}
