/** Promises 13 to 15: run, spent and escaped. */
public final class RunTest {
  private static final Check check = new Check();
  private static final int MAX = Integer.MAX_VALUE;
  private static final int MIN = Integer.MIN_VALUE;

  public static void main(String[] args) {
    registersAtFirst();
    arithmetic();
    jumps();
    endsGiveForNothing();
    callsGive();
    twelveUnderWay();
    handlersAreGoneTo();
    againThrows();
    againIsOfThisCall();
    fuelEnds();
    refusedRunsTellNothing();
    refuses();
    check.end();
  }

  private static void gives(String what, ThrowFlow x, int start, int value, int fuel) {
    check.same(what, value, x.run(0, start, 3000));
    tells(what, x, fuel, ThrowFlow.NONE);
    check.same(what + ", with just enough", value, x.run(0, start, fuel));
    if (fuel > 0) {
      check.fails(what + ", with one less", IllegalStateException.class, () -> x.run(0, start, fuel - 1));
      tells(what + ", with one less", x, fuel - 1, ThrowFlow.NONE);
    }
  }

  private static void lets(String what, ThrowFlow x, int start, int kind, int fuel) {
    check.fails(what, UnsupportedOperationException.class, () -> x.run(0, start, 3000));
    tells(what, x, fuel, kind);
    check.fails(what + ", with just enough", UnsupportedOperationException.class, () -> x.run(0, start, fuel));
    tells(what + ", with just enough", x, fuel, kind);
    check.fails(what + ", with one less", IllegalStateException.class, () -> x.run(0, start, fuel - 1));
    tells(what + ", with one less", x, fuel - 1, ThrowFlow.NONE);
  }

  private static void tells(String what, ThrowFlow x, int spent, int escaped) {
    check.same(what + ": spent()", spent, x.spent());
    check.same(what + ": escaped()", escaped, x.escaped());
  }

  private static void registersAtFirst() {
    int[] due = {-9, 0, 0, 0};
    for (int r = 0; r < 4; r++) {
      ThrowFlow x = Check.withMethods(1);
      x.add(0, 9, r, 0);
      gives("register " + r, x, -9, due[r], 1);
      x.change(0, 0, 0, r, 5);
      x.add(0, 9, r, 0);
      gives("register " + r + " set", x, -9, 5, 2);
      x.change(0, 0, 0, 0, 0);
      gives("register " + r + " anew", x, -9, 0, 2);
    }
  }

  private static int after(int code, int left, int right) {
    ThrowFlow x = Check.withMethods(1);
    x.add(0, 0, 3, right);
    x.add(0, code, 0, 3);
    return x.run(0, left, 2);
  }

  private static void arithmetic() {
    int[] numbers = {0, 1, -1, 2, -3, 7, -8, 1000, MAX, MIN};
    for (int left : numbers) {
      for (int right : numbers) {
        check.same(left + " + " + right, left + right, after(1, left, right));
        check.same(left + " - " + right, left - right, after(2, left, right));
        if (right != 0) {
          check.same(left + " / " + right, left / right, after(3, left, right));
        }
      }
    }
    check.same("towards 0", -2, after(3, -7, 3));
    check.same("wrapping", MIN, after(3, MIN, -1));
    ThrowFlow x = Check.withMethods(1);
    x.add(0, 1, 0, 0);
    gives("a register added to itself", x, 21, 42, 1);
    x.change(0, 0, 3, 0, 0);
    gives("a register divided by itself", x, 21, 1, 1);
    lets("0 divided by itself", x, 0, 1, 1);
  }

  private static void jumps() {
    ThrowFlow x = Check.withMethods(1);
    x.add(0, 5, 0, 3);
    x.add(0, 0, 0, 10);
    x.add(0, 4, 4, 0);
    x.add(0, 0, 0, 20);
    x.add(0, 9, 0, 0);
    gives("ZERO of 0", x, 0, 20, 3);
    gives("ZERO of 1", x, 1, 10, 4);
    gives("ZERO of MIN", x, MIN, 10, 4);
    x.change(0, 2, 4, 23, 0);
    gives("a JUMP to where there is none", x, 1, 10, 3);
    x.change(0, 0, 5, 1, 5);
    gives("a ZERO to where there is none", x, 6, 6, 1);
  }

  private static void endsGiveForNothing() {
    ThrowFlow x = Check.withMethods(3);
    gives("no instructions", x, 13, 13, 0);
    x.add(0, 6, 0, 1);
    gives("a method with no instructions", x, 13, 13, 1);
    x.add(1, 6, 0, 2);
    gives("two ends at once", x, 13, 13, 2);
    x.change(0, 0, 6, 1, 1);
    gives("a call for another register", x, 13, 13, 2);
    x.add(0, 9, 1, 0);
    gives("which is 0", x, 13, 0, 3);
    for (int n = 2; n < 24; n++) {
      x.add(0, 0, 0, n);
    }
    x.change(0, 1, 0, 0, 1);
    gives("24 instructions", x, 13, 23, 25);
  }

  private static void callsGive() {
    ThrowFlow x = Check.withMethods(2);
    x.add(0, 0, 1, 5);
    x.add(0, 0, 2, 6);
    x.add(0, 6, 1, 1);
    x.add(0, 1, 0, 1);
    x.add(0, 1, 0, 2);
    x.add(1, 0, 2, 100);
    x.add(1, 1, 0, 2);
    gives("registers are of each call", x, 1000, 1111, 7);
    x.add(1, 9, 2, 0);
    gives("what GIVE names", x, 1000, 1106, 8);
    x.change(0, 2, 6, 1, 7);
    gives("a method that is not there gives 0", x, 1000, 1006, 5);
    x.change(0, 2, 6, 3, 1);
    gives("into register 3", x, 1000, 1011, 8);
  }

  private static void twelveUnderWay() {
    ThrowFlow x = Check.withMethods(1);
    x.add(0, 5, 0, 4);
    x.add(0, 0, 1, 1);
    x.add(0, 2, 0, 1);
    x.add(0, 6, 0, 0);
    gives("twelve methods", x, 11, 0, 45);
    lets("thirteen methods", x, 12, 2, 48);
    x.add(0, 6, 0, 7);
    lets("a method that is not there is not called by the twelfth", x, 11, 2, 46);
    gives("but by the eleventh", x, 10, 0, 52);
    x.change(0, 4, 9, 0, 0);
    x.handler(0, 3, 3, 2, 4);
    gives("the twelfth catches it", x, 12, 0, 60);
  }

  private static void handlersAreGoneTo() {
    ThrowFlow x = Check.withMethods(2);
    x.kind(1);
    x.add(0, 0, 1, 8);
    x.add(0, 6, 0, 1);
    x.add(0, 9, 0, 0);
    x.add(0, 9, 1, 0);
    x.add(0, 9, 2, 0);
    x.add(1, 7, 3, 0);
    lets("no handler", x, 5, 3, 3);
    x.handler(0, 0, 0, 0, 4);
    lets("not covered", x, 5, 3, 3);
    x.handler(0, 1, 1, 2, 4);
    lets("another class", x, 5, 3, 3);
    x.handler(0, 1, 1, 1, 3);
    gives("caught by the parent's, registers stay", x, 5, 8, 4);
    x.handler(0, 1, 1, 0, 4);
    gives("the first that fits", x, 5, 8, 4);
    x.handler(1, 0, 0, 0, 23);
    gives("caught where it is thrown", x, 5, 5, 4);
    x.change(1, 0, 3, 0, 1);
    gives("a DIV's is caught likewise", x, 5, 5, 4);
  }

  private static void againThrows() {
    ThrowFlow x = Check.withMethods(1);
    x.kind(1);
    x.add(0, 8, 0, 0);
    x.add(0, 5, 0, 3);
    x.add(0, 7, 3, 0);
    x.add(0, 7, 2, 0);
    x.add(0, 8, 0, 0);
    x.add(0, 8, 1, 0);
    x.add(0, 9, 0, 0);
    lets("none was caught", x, 0, 2, 3);
    x.handler(0, 2, 2, 1, 4);
    x.handler(0, 3, 3, 0, 4);
    lets("the first handler's", x, 1, 3, 4);
    lets("the second handler's", x, 0, 2, 5);
    x.change(0, 4, 8, 3, 0);
    x.change(0, 5, 8, 2, 0);
    gives("handlers that are not there", x, 1, 1, 6);
    lastOfTwo();
    caughtAnew();
  }

  private static void lastOfTwo() {
    ThrowFlow x = Check.withMethods(1);
    x.add(0, 7, 1, 0);
    x.add(0, 5, 1, 4);
    x.add(0, 8, 0, 0);
    x.add(0, 0, 0, 0);
    x.add(0, 0, 1, 1);
    x.add(0, 7, 2, 0);
    x.handler(0, 0, 1, 0, 1);
    x.handler(0, 5, 5, 0, 2);
    lets("each handler has its own", x, 0, 1, 5);
    x.change(0, 2, 8, 1, 0);
    lets("each handler has its own", x, 0, 2, 5);
    ThrowFlow y = Check.withMethods(1);
    y.add(0, 7, 1, 0);
    y.add(0, 5, 1, 3);
    y.add(0, 8, 0, 0);
    y.add(0, 0, 1, 1);
    y.add(0, 7, 2, 0);
    y.handler(0, 0, 0, 0, 1);
    lets("what is not caught ends it", y, 0, 2, 4);
    ThrowFlow z = Check.withMethods(1);
    z.add(0, 7, 1, 0);
    z.add(0, 5, 1, 3);
    z.add(0, 8, 0, 0);
    z.add(0, 0, 1, 1);
    z.add(0, 7, 2, 0);
    z.handler(0, 0, 0, 2, 1);
    z.handler(0, 0, 0, 0, 1);
    z.handler(0, 4, 4, 0, 1);
    z.change(0, 2, 8, 2, 0);
    lets("the last one caught", z, 0, 2, 6);
    z.change(0, 2, 8, 1, 0);
    lets("the one before", z, 0, 1, 6);
    z.change(0, 2, 8, 0, 0);
    check.fails("none, so on to the next", IllegalStateException.class, () -> z.run(0, 0, 100));
    tells("none, so on to the next", z, 100, ThrowFlow.NONE);
  }

  /** A handler that catches 1 and then 2 throws 2 again. */
  private static void caughtAnew() {
    ThrowFlow x = Check.withMethods(1);
    x.add(0, 7, 1, 0);
    x.add(0, 7, 2, 0);
    x.add(0, 5, 1, 4);
    x.add(0, 8, 0, 0);
    x.add(0, 0, 1, 1);
    x.add(0, 4, 1, 0);
    x.handler(0, 0, 1, 0, 2);
    lets("the one caught last", x, 0, 2, 7);
  }

  /** What an outer call of the same method caught is not what an inner or a later one caught. */
  private static void againIsOfThisCall() {
    ThrowFlow x = Check.withMethods(2);
    x.add(0, 6, 0, 1);
    x.add(0, 0, 0, 0);
    x.add(0, 6, 0, 1);
    x.add(1, 5, 0, 3);
    x.add(1, 7, 1, 0);
    x.add(1, 9, 2, 0);
    x.add(1, 8, 0, 0);
    x.add(1, 0, 0, 4);
    x.handler(1, 1, 1, 1, 2);
    gives("a later call", x, 1, 4, 9);
    ThrowFlow y = Check.withMethods(1);
    y.add(0, 5, 0, 4);
    y.add(0, 7, 1, 0);
    y.add(0, 0, 0, 0);
    y.add(0, 6, 0, 0);
    y.add(0, 8, 0, 0);
    y.handler(0, 1, 1, 1, 2);
    lets("an inner call, then the outer one", y, 1, 1, 7);
    gives("a later run", y, 0, 0, 2);
  }

  private static void fuelEnds() {
    ThrowFlow x = Check.withMethods(1);
    x.add(0, 4, 0, 0);
    for (int fuel : new int[] {0, 1, 2, 2999, 3000}) {
      check.fails("a circle", IllegalStateException.class, () -> x.run(0, 0, fuel));
      tells("a circle", x, fuel, ThrowFlow.NONE);
    }
    x.change(0, 0, 7, 2, 0);
    lets("a THROW", x, 0, 2, 1);
    x.handler(0, 0, 0, 0, 0);
    check.fails("a circle by a handler", IllegalStateException.class, () -> x.run(0, 0, 3000));
    tells("a circle by a handler", x, 3000, ThrowFlow.NONE);
    ThrowFlow y = Check.withMethods(2);
    y.add(0, 6, 0, 1);
    y.add(0, 4, 0, 0);
    y.add(1, 6, 0, 7);
    check.fails("a circle of calls", IllegalStateException.class, () -> y.run(0, 0, 2000));
    tells("a circle of calls", y, 2000, ThrowFlow.NONE);
  }

  private static void refusedRunsTellNothing() {
    ThrowFlow x = Check.withMethods(1);
    x.add(0, 0, 1, 1);
    x.add(0, 7, 2, 0);
    check.fails("run", UnsupportedOperationException.class, () -> x.run(0, 0, 9));
    check.fails("no method", IndexOutOfBoundsException.class, () -> x.run(1, 0, 9));
    tells("no method", x, 2, 2);
    check.fails("no fuel", IllegalArgumentException.class, () -> x.run(0, 0, -1));
    tells("no fuel", x, 2, 2);
    x.change(0, 1, 9, 1, 0);
    x.out(0);
    tells("other calls", x, 2, 2);
    check.same("run", 1, x.run(0, 0, 9));
    tells("the latest run", x, 2, ThrowFlow.NONE);
  }

  private static void refuses() {
    ThrowFlow x = Check.withMethods(1);
    for (int m : new int[] {-1, 1, 7, 8, MAX, MIN}) {
      check.fails("method " + m, IndexOutOfBoundsException.class, () -> x.run(m, 0, 10));
      check.fails("method " + m + ", wrong fuel", IndexOutOfBoundsException.class, () -> x.run(m, 0, -1));
    }
    for (int fuel : new int[] {-1, 3001, MAX, MIN}) {
      check.fails("fuel " + fuel, IllegalArgumentException.class, () -> x.run(0, 0, fuel));
    }
    check.same("fuel 0", 3, x.run(0, 3, 0));
    check.same("fuel 3000", 3, x.run(0, 3, 3000));
  }
}
