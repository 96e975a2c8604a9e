public final class StartTest {
  public static void main(String[] args) {
    Check.due("hooks", new HayBarn().hooks(), 0);
    Check.end("StartTest");
  }
}
