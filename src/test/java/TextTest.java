/** Promises 4 to 7: method, add, handler and change. */
public final class TextTest {
  private static final Check check = new Check();
  private static final int MAX = Integer.MAX_VALUE;
  private static final int MIN = Integer.MIN_VALUE;

  public static void main(String[] args) {
    methodCounts();
    addAnswersNumbers();
    addRefuses();
    addTakesWhatIsNotThere();
    handlerAnswersNumbers();
    handlerRefuses();
    changeAnswersTheCode();
    changeRefuses();
    refusedCallsChangeNothing();
    check.end();
  }

  private static void methodCounts() {
    ThrowFlow x = new ThrowFlow();
    for (int number = 0; number < 8; number++) {
      int absent = number;
      check.fails("run before it is made", IndexOutOfBoundsException.class, () -> x.run(absent, 0, 1));
      check.same("method()", number, x.method());
      check.same("a new method gives x", 77, x.run(number, 77, 0));
      check.same("a new method lets nothing out", 0, x.out(number));
      check.same("its handlers catch nothing", 0, x.catches(number, 0));
    }
    check.same("a ninth method()", ThrowFlow.NONE, x.method());
    check.same("a tenth method()", ThrowFlow.NONE, x.method());
    check.fails("add to method 8", IndexOutOfBoundsException.class, () -> x.add(8, 0, 0, 0));
  }

  private static void addAnswersNumbers() {
    ThrowFlow x = Check.withMethods(1);
    x.method();
    for (int number = 0; number < 24; number++) {
      check.same("add", number, x.add(0, number % 10, 1, 2));
    }
    check.same("add to another method", 0, x.add(1, 9, 0, 0));
    check.fails("a 25th add", UnsupportedOperationException.class, () -> x.add(0, 0, 0, 0));
    check.fails("a wrong 25th add", UnsupportedOperationException.class, () -> x.add(0, 10, 9, 9));
    check.fails("add to no method", IndexOutOfBoundsException.class, () -> x.add(2, 10, 9, 9));
    check.fails("add to -1", IndexOutOfBoundsException.class, () -> x.add(-1, 0, 0, 0));
    check.fails("add to MIN", IndexOutOfBoundsException.class, () -> x.add(MIN, 0, 0, 0));
    check.fails("add to MAX", IndexOutOfBoundsException.class, () -> x.add(MAX, 0, 0, 0));
  }

  /** Every code at the edges of what its a and b may be; add and change must agree. */
  private static void addRefuses() {
    int[] edges = {MIN, -1, 0, 2, 3, 4, 7, 8, 23, 24, MAX};
    for (int code = -1; code <= 10; code++) {
      for (int a : edges) {
        for (int b : edges) {
          putBoth(code, a, b, isAllowed(code, a, b));
        }
      }
    }
    putBoth(MIN, 0, 0, false);
    putBoth(MAX, 0, 0, false);
  }

  private static boolean isAllowed(int code, int a, int b) {
    boolean registerA = a >= 0 && a <= 3;
    boolean registerB = b >= 0 && b <= 3;
    return switch (code) {
      case 0, 9 -> registerA;
      case 1, 2, 3 -> registerA && registerB;
      case 4 -> a >= 0 && a <= 23;
      case 5 -> registerA && b >= 0 && b <= 23;
      case 6 -> registerA && b >= 0 && b <= 7;
      case 7 -> a >= 0 && a <= 2;
      case 8 -> a >= 0 && a <= 3;
      default -> false;
    };
  }

  private static void putBoth(int code, int a, int b, boolean allowed) {
    String call = code + ", " + a + ", " + b;
    ThrowFlow x = Check.withMethods(1);
    if (allowed) {
      check.same("add " + call, 0, x.add(0, code, a, b));
      check.same("change " + call, code, x.change(0, 0, code, a, b));
    } else {
      check.fails("add " + call, IllegalArgumentException.class, () -> x.add(0, code, a, b));
      check.same("nothing was added", 0, x.add(0, 9, 0, 0));
      check.fails("change " + call, IllegalArgumentException.class, () -> x.change(0, 0, code, a, b));
      check.same("nothing was changed", 9, x.change(0, 0, 9, 0, 0));
    }
  }

  private static void addTakesWhatIsNotThere() {
    ThrowFlow x = Check.withMethods(1);
    check.same("a CALL of a method not made", 0, x.add(0, 6, 0, 7));
    check.same("an AGAIN of a handler not there", 1, x.add(0, 8, 3, 0));
    check.same("it gives 0", 0, x.run(0, 5, 10));
    check.same("all instructions were done", 2, x.spent());
    check.same("it raises 2 alone", 4, x.raises(0, 0));
    check.same("it raises nothing", 0, x.raises(0, 1));
    check.fails("a THROW of a class not there", IllegalArgumentException.class, () -> x.add(0, 7, 3, 0));
    x.kind(1);
    check.same("a THROW of a class made since", 2, x.add(0, 7, 3, MIN));
    for (int number = 1; number < 8; number++) {
      x.method();
    }
    check.same("the method is there since, and gives x", 8, x.raises(0, 2));
    x.change(0, 2, 9, 0, MAX);
    check.same("the CALL reaches it", 5, x.run(0, 5, 10));
  }

  private static void handlerAnswersNumbers() {
    ThrowFlow x = Check.withMethods(1);
    x.method();
    for (int number = 0; number < 4; number++) {
      check.same("handler", number, x.handler(0, 0, 23, 0, 23));
    }
    check.same("handler of another method", 0, x.handler(1, 23, 23, 2, 0));
    check.fails("a fifth", UnsupportedOperationException.class, () -> x.handler(0, 0, 0, 0, 0));
    check.fails("a wrong fifth", UnsupportedOperationException.class, () -> x.handler(0, 3, 2, 9, 24));
    check.fails("of no method", IndexOutOfBoundsException.class, () -> x.handler(2, 3, 2, 9, 24));
    check.fails("of -1", IndexOutOfBoundsException.class, () -> x.handler(-1, 0, 0, 0, 0));
    check.fails("of MAX", IndexOutOfBoundsException.class, () -> x.handler(MAX, 0, 0, 0, 0));
  }

  private static void handlerRefuses() {
    ThrowFlow x = Check.withMethods(1);
    int[][] wrong = {
      {-1, 0, 0, 0}, {0, -1, 0, 0}, {24, 24, 0, 0}, {0, 24, 0, 0}, {5, 4, 0, 0}, {23, 0, 0, 0},
      {0, 0, -1, 0}, {0, 0, 3, 0}, {0, 0, 10, 0}, {0, 0, 0, -1}, {0, 0, 0, 24},
      {MIN, MAX, 0, 0}, {0, MAX, 0, 0}, {MIN, 0, 0, 0}, {0, 0, MAX, 0}, {0, 0, MIN, 0},
      {0, 0, 0, MAX}, {0, 0, 0, MIN}
    };
    for (int[] w : wrong) {
      check.fails("handler " + w[0] + ", " + w[1] + ", " + w[2] + ", " + w[3],
          IllegalArgumentException.class, () -> x.handler(0, w[0], w[1], w[2], w[3]));
    }
    check.same("none was added", 0, x.handler(0, 4, 4, 2, 0));
    x.kind(0);
    check.same("a class made since", 1, x.handler(0, 0, 23, 3, 23));
  }

  private static void changeAnswersTheCode() {
    ThrowFlow x = Check.withMethods(1);
    for (int code = 0; code < 10; code++) {
      x.add(0, code, 1, 1);
    }
    for (int i = 0; i < 10; i++) {
      check.same("change", i, x.change(0, i, 9 - i, 0, 0));
      check.same("change again", 9 - i, x.change(0, i, 0, 0, 40 + i));
    }
    check.same("it runs as changed", 49, x.run(0, 0, 10));
    check.same("the number of instructions stays", 10, x.spent());
    check.same("the next one", 10, x.add(0, 0, 0, 0));
  }

  private static void changeRefuses() {
    ThrowFlow x = Check.withMethods(1);
    x.method();
    x.add(0, 0, 0, 0);
    x.add(1, 0, 0, 0);
    x.add(1, 0, 0, 0);
    check.fails("instruction 1", IndexOutOfBoundsException.class, () -> x.change(0, 1, 0, 0, 0));
    check.fails("instruction -1", IndexOutOfBoundsException.class, () -> x.change(0, -1, 0, 0, 0));
    check.fails("instruction MAX", IndexOutOfBoundsException.class, () -> x.change(0, MAX, 0, 0, 0));
    check.fails("method 2", IndexOutOfBoundsException.class, () -> x.change(2, 0, 0, 0, 0));
    check.fails("method -1", IndexOutOfBoundsException.class, () -> x.change(-1, 0, 0, 0, 0));
    check.fails("both wrong", IndexOutOfBoundsException.class, () -> x.change(0, 1, 10, 9, 9));
    check.fails("the code", IllegalArgumentException.class, () -> x.change(0, 0, 10, 0, 0));
  }

  private static void refusedCallsChangeNothing() {
    ThrowFlow x = Check.withMethods(1);
    x.add(0, 7, 2, 0);
    x.handler(0, 0, 0, 2, 1);
    check.same("out(0)", 0, x.out(0));
    check.fails("add", IllegalArgumentException.class, () -> x.add(0, 7, 3, 0));
    check.fails("change", IllegalArgumentException.class, () -> x.change(0, 0, 7, 3, 0));
    check.fails("handler", IllegalArgumentException.class, () -> x.handler(0, 0, 0, 3, 1));
    check.same("raises(0, 0) as before", 4, x.raises(0, 0));
    check.same("raises(0, 1) as before", 0, x.raises(0, 1));
    check.same("catches(0, 0) as before", 4, x.catches(0, 0));
    check.same("out(0) as before", 0, x.out(0));
    check.same("it runs as before", 6, x.run(0, 6, 10));
    check.same("with as much fuel", 1, x.spent());
  }
}
