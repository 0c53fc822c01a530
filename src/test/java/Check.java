import java.util.function.IntSupplier;
import java.util.function.Supplier;

/** Counts the calls of a test whose answer is not the one that is due, and prints them. */
final class Check {
  private int wrong = 0;
  private int looked = 0;
  private String words = "";

  static ThrowFlow withMethods(int count) {
    ThrowFlow x = new ThrowFlow();
    for (int m = 0; m < count; m++) {
      x.method();
    }
    return x;
  }

  /** The words of the document that break if one of the looks which follow goes wrong. */
  void says(String words) {
    this.words = words;
  }

  void same(String call, long want, long got) {
    same(call, Long.toString(want), Long.toString(got));
  }

  void same(String call, String want, String got) {
    looked++;
    if (!want.equals(got)) {
      tell(call + " answered " + got + ", due is " + want);
    }
  }

  void yes(String call, boolean got) {
    same(call, 1, got ? 1 : 0);
  }

  void no(String call, boolean got) {
    same(call, 0, got ? 1 : 0);
  }

  /** The very class is asked for: an ArrayIndexOutOfBoundsException is no answer of the document. */
  void fails(String call, Class<? extends RuntimeException> want, Runnable action) {
    String got = "nothing thrown";
    try {
      action.run();
    } catch (RuntimeException e) {
      got = e.getClass().getSimpleName();
    }
    same(call, want.getSimpleName(), got);
  }

  /** For a call that a wrong program could refuse: the test goes on then, too. */
  void gives(String call, int want, IntSupplier asked) {
    String got;
    try {
      got = Integer.toString(asked.getAsInt());
    } catch (RuntimeException e) {
      got = e.getClass().getSimpleName();
    }
    same(call, Integer.toString(want), got);
  }

  /** For a call with its answer as README.md shows it: a number, true or false, or what it throws. */
  void answers(String call, String want, Supplier<Object> asked) {
    String got;
    try {
      got = asked.get().toString();
    } catch (RuntimeException e) {
      got = "throws " + e.getClass().getSimpleName();
    }
    same(call, want, got);
  }

  private void tell(String what) {
    wrong++;
    System.out.println(words.isEmpty() ? what : "'" + words + "': " + what);
  }

  void end() {
    if (looked == 0) {
      tell("nothing was looked at");
    }
    System.exit(wrong == 0 ? 0 : 1);
  }
}
