/** Counts and tells the answers that are not as due. */
final class Check {
  private static String about = "";
  private static int wrong = 0;

  private Check() { }

  /** What the checks that follow are about: told with each wrong answer. */
  static void about(String what) { about = what; }

  static void due(String what, long got, long want) {
    if (got != want) tell(what + " answered " + got + ", due is " + want);
  }

  static void due(String what, boolean got, boolean want) {
    due(what, got ? 1 : 0, want ? 1 : 0);
  }

  static void tell(String what) {
    wrong++;
    System.out.println(about + ": " + what);
  }

  /** A call that throws is as wrong as a wrong answer, and the checks behind it are still wanted. */
  static void run(Runnable test) {
    try {
      test.run();
    } catch (RuntimeException | StackOverflowError thrown) {
      tell("thrown: " + thrown);
    }
  }

  /** A call that does not end must not keep the tests from ending. */
  static void begin(int seconds) {
    Thread watch = new Thread(() -> {
      try {
        Thread.sleep(1000L * seconds);
      } catch (InterruptedException ended) {
        return;
      }
      System.out.println(about + ": not ended after " + seconds + " seconds");
      Runtime.getRuntime().halt(1);
    });
    watch.setDaemon(true);
    watch.start();
  }

  static void end(String whenRight) {
    System.out.println(wrong == 0 ? whenRight : wrong + " answers are not as due");
    if (wrong != 0) System.exit(1);
  }
}
