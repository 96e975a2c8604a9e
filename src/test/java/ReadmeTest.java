/** The example of README.md, with the answers that it tells. */
public final class ReadmeTest {
  public static void main(String[] args) {
    HayBarn barn = new HayBarn();
    tell(barn, "barn 8; loft 6; promote 1; hook a; hook b;"
        + " make a size 2 + step ropes 1; tie a rope 0 to b when has b; follow b by a rope 0;");
    Check.due("teach", barn.teach(), 0);
    Check.due("make", barn.make(1, 3, 1), 0);
    Check.due("work", barn.work(3), 3);
    Check.due("ropesBetween", barn.ropesBetween(0, 1), 1);
    Check.due("stepsUntilCopying", barn.stepsUntilCopying(), 1);
    textsOfAllLengths();
    Check.end("ReadmeTest");
  }

  private static void textsOfAllLengths() {
    for (int length = 0; length <= 2000; length++) {
      HayBarn barn = new HayBarn();
      tell(barn, " ".repeat(length) + (length < 2000 ? "!" : ""));
      Check.due("teach of " + length, barn.teach(), length < 2000 ? 1 : 0);
      Check.due("errorAt of " + length, barn.errorAt(), length < 2000 ? length : -1);
    }
  }

  static void tell(HayBarn barn, String text) {
    int end = 0;
    for (int i = 0; i < text.length(); i += 20) {
      end = barn.feed(four(text, i), four(text, i + 4), four(text, i + 8), four(text, i + 12),
          four(text, i + 16));
    }
    barn.trim(end - (20 - text.length() % 20) % 20);
  }

  static int four(String text, int from) {
    int number = 0;
    for (int i = from; i < from + 4; i++) {
      number = number << 8 | (i < text.length() ? text.charAt(i) : ' ');
    }
    return number;
  }
}
