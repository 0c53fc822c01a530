import java.util.function.IntSupplier;

/**
 * All that can be asked of an object, as one text: two objects of which the same was told answer
 * the same. What shows only by adding and changing is asked last.
 */
final class Whole implements Codes {
  private static final int MOST_CALLS = 512;

  private final ThrowFlow x;
  private final int[] sizes;
  private final StringBuilder all = new StringBuilder();
  private int calls;

  private Whole(ThrowFlow x, int before, int[] sizes) {
    this.x = x;
    this.calls = before;
    this.sizes = sizes;
  }

  /** before: how many calls the object has answered; sizes: how many instructions each method has. */
  static String of(ThrowFlow x, int before, int... sizes) {
    Whole whole = new Whole(x, before, sizes);
    whole.askAboutTheLatestRun();
    whole.askAboutClasses();
    for (int m = 0; m <= sizes.length; m++) {
      whole.askAboutMethod(m);
    }
    for (int m = 0; m <= sizes.length; m++) {
      whole.runMethod(m);
    }
    for (int m = 0; m <= sizes.length; m++) {
      whole.changeMethod(m);
    }
    whole.addOneOfEach();
    if (whole.calls > MOST_CALLS) {
      throw new AssertionError("an object answers 512 calls, these were " + whole.calls);
    }
    return whole.all.toString();
  }

  private int ask(String call, IntSupplier asked) {
    calls++;
    int got = 0;
    all.append(call).append(": ");
    try {
      got = asked.getAsInt();
      all.append(got);
    } catch (RuntimeException e) {
      all.append(e.getClass().getSimpleName());
    }
    all.append('\n');
    return got;
  }

  private int sizeOf(int m) {
    return m < sizes.length ? sizes[m] : 0;
  }

  private void askAboutTheLatestRun() {
    ask("spent", x::spent);
    ask("escaped", x::escaped);
  }

  /** A new class would show as one of itself and of its parent. */
  private void askAboutClasses() {
    for (int a = 2; a <= 10; a++) {
      for (int b = 0; b <= a; b++) {
        int below = b;
        int above = a;
        ask("is " + a + " " + b, () -> x.is(above, below) ? 1 : 0);
      }
    }
  }

  private void askAboutMethod(int m) {
    ask("out " + m, () -> x.out(m));
    for (int i = 0; i <= sizeOf(m); i++) {
      int n = i;
      ask("raises " + m + " " + i, () -> x.raises(m, n));
    }
    for (int h = 0; h <= 4 && sizeOf(m) > 0; h++) {
      int n = h;
      ask("catches " + m + " " + h, () -> x.catches(m, n));
    }
    for (int c = 0; c < 4 && sizeOf(m) > 0; c++) {
      askAboutWay(m, c);
    }
  }

  private void askAboutWay(int m, int c) {
    int length = ask("way " + m + " " + c, () -> x.way(m, c));
    for (int k = 0; k < length; k++) {
      int n = k;
      ask("step " + m + " " + c + " " + k, () -> x.step(m, c, n));
    }
  }

  private void runMethod(int m) {
    ask("run " + m, () -> x.run(m, 3, 200));
    askAboutTheLatestRun();
  }

  private void changeMethod(int m) {
    for (int i = 0; i < sizeOf(m); i++) {
      int n = i;
      ask("change " + m + " " + i, () -> x.change(m, n, SET, 1, 1));
    }
    ask("add " + m, () -> x.add(m, SET, 1, 1));
    ask("handler " + m, () -> x.handler(m, 0, 0, 0, 0));
  }

  private void addOneOfEach() {
    ask("kind", () -> x.kind(0));
    ask("method", x::method);
  }
}
