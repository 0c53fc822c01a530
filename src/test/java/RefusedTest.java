/**
 * 'a call that throws changes nothing, but for what is said of run()': behind each refused call an
 * object answers all that can be asked as one does of which the same was told without that call.
 */
public final class RefusedTest implements Codes {
  private static final Check check = new Check();

  private interface Call {
    void on(ThrowFlow x);
  }

  private interface Made {
    ThrowFlow make();

    int calls();

    int[] sizes();
  }

  /** Room for more of everything. */
  private static final class Small implements Made {
    @Override
    public ThrowFlow make() {
      ThrowFlow x = Check.withMethods(3);
      x.kind(1);
      x.add(0, SET, 2, 40);
      x.add(0, CALL, 2, 1);
      x.add(0, ADD, 0, 2);
      x.add(0, AGAIN, 0, 0);
      x.add(1, ADD, 0, 0);
      x.add(1, DIV, 0, 3);
      x.add(1, THROW, 3, 0);
      x.add(2, THROW, 2, 0);
      x.handler(0, 1, 1, 2, 2);
      x.handler(0, 1, 2, 3, 2);
      x.handler(1, 1, 1, 1, 2);
      check.fails("a run that lets 2 out", UnsupportedOperationException.class, () -> x.run(2, 0, 9));
      return x;
    }

    @Override
    public int calls() {
      return 16;
    }

    @Override
    public int[] sizes() {
      return new int[] {4, 3, 1};
    }
  }

  /** No room for anything: all methods and classes, and one method with all it can have. */
  private static final class Full implements Made {
    @Override
    public ThrowFlow make() {
      ThrowFlow x = Check.withMethods(8);
      for (int c = 3; c < 10; c++) {
        x.kind(c - 2);
      }
      x.add(0, CALL, 1, 7);
      x.add(0, THROW, 9, 0);
      x.add(0, DIV, 0, 3);
      x.add(0, CALL, 1, 7);
      for (int i = 4; i < 24; i++) {
        x.add(0, AGAIN, i % 4, 0);
      }
      x.add(7, THROW, 1, 0);
      for (int h = 0; h < 4; h++) {
        x.handler(0, h, h, 0, h + 1);
      }
      check.fails("a run that lets 1 out", UnsupportedOperationException.class, () -> x.run(0, 0, 9));
      return x;
    }

    @Override
    public int calls() {
      return 8 + 7 + 24 + 1 + 4 + 1;
    }

    @Override
    public int[] sizes() {
      return new int[] {24, 0, 0, 0, 0, 0, 0, 1};
    }
  }

  public static void main(String[] args) {
    refusedOfSmall();
    refusedOfFull();
    runsThatEndLeaveTheText();
    methodsOfEight();
    otherCallsAreSeen();
    check.end();
  }

  private static String wholeOf(Made made, ThrowFlow x) {
    return Whole.of(x, made.calls() + 2, made.sizes());
  }

  private static void changesNothing(
      String call, Made made, Class<? extends RuntimeException> want, Call refused) {
    check.says("a call that throws changes nothing: " + call);
    String due = wholeOf(made, made.make());
    ThrowFlow x = made.make();
    check.fails("it", want, () -> refused.on(x));
    check.same("all behind it", due, wholeOf(made, x));
    ThrowFlow asked = made.make();
    asked.out(0);
    check.fails("it, behind a question", want, () -> refused.on(asked));
    check.same("all behind it and a question", due, wholeOf(made, asked));
  }

  private static void outOf(String call, Made made, Call refused) {
    changesNothing(call, made, IndexOutOfBoundsException.class, refused);
  }

  private static void argument(String call, Made made, Call refused) {
    changesNothing(call, made, IllegalArgumentException.class, refused);
  }

  private static void unsupported(String call, Made made, Call refused) {
    changesNothing(call, made, UnsupportedOperationException.class, refused);
  }

  private static void refusedOfSmall() {
    Made made = new Small();
    argument("kind(4)", made, x -> x.kind(4));
    argument("kind(-1)", made, x -> x.kind(-1));
    outOf("add to 3", made, x -> x.add(3, THROW, 0, 0));
    outOf("add to -1", made, x -> x.add(-1, THROW, 0, 0));
    argument("add of code 10", made, x -> x.add(0, 10, 0, 0));
    argument("add of code -1", made, x -> x.add(0, -1, 0, 0));
    argument("SET of register 4", made, x -> x.add(1, SET, 4, 0));
    argument("DIV by register 4", made, x -> x.add(1, DIV, 0, 4));
    argument("JUMP to 24", made, x -> x.add(0, JUMP, 24, 0));
    argument("ZERO to 24", made, x -> x.add(0, ZERO, 0, 24));
    argument("CALL of 8", made, x -> x.add(0, CALL, 0, 8));
    argument("THROW of 4", made, x -> x.add(0, THROW, 4, 0));
    argument("AGAIN of 4", made, x -> x.add(0, AGAIN, 4, 0));
    outOf("handler of 3", made, x -> x.handler(3, 0, 0, 0, 0));
    argument("handler from -1", made, x -> x.handler(1, -1, 23, 0, 0));
    argument("handler to 24", made, x -> x.handler(1, 0, 24, 0, 0));
    argument("handler from above", made, x -> x.handler(1, 2, 1, 0, 0));
    argument("handler of class 4", made, x -> x.handler(1, 0, 23, 4, 0));
    argument("handler with target 24", made, x -> x.handler(1, 0, 23, 0, 24));
    outOf("change of method 3", made, x -> x.change(3, 0, THROW, 0, 0));
    outOf("change of instruction 4", made, x -> x.change(0, 4, THROW, 0, 0));
    outOf("change of instruction -1", made, x -> x.change(1, -1, THROW, 0, 0));
    argument("change to code 10", made, x -> x.change(0, 0, 10, 0, 0));
    argument("change to register 4", made, x -> x.change(0, 0, SET, 4, 7));
    argument("change to ADD of 4", made, x -> x.change(0, 2, ADD, 3, 4));
    argument("change to THROW of 4", made, x -> x.change(0, 0, THROW, 4, 0));
    argument("change to CALL of -1", made, x -> x.change(0, 0, CALL, 0, -1));
    outOf("run of 3", made, x -> x.run(3, 0, 9));
    outOf("run of -1", made, x -> x.run(-1, 0, -1));
    argument("run with 3001", made, x -> x.run(0, 0, 3001));
    argument("run with -1", made, x -> x.run(0, 0, -1));
  }

  private static void refusedOfFull() {
    Made made = new Full();
    unsupported("kind of ten", made, x -> x.kind(0));
    argument("kind(10)", made, x -> x.kind(10));
    outOf("add to 8", made, x -> x.add(8, THROW, 0, 0));
    unsupported("add to 24", made, x -> x.add(0, THROW, 0, 0));
    unsupported("a wrong add to 24", made, x -> x.add(0, 10, 0, 0));
    argument("THROW of 10", made, x -> x.add(7, THROW, 10, 0));
    outOf("handler of 8", made, x -> x.handler(8, 0, 0, 0, 0));
    unsupported("handler of 4", made, x -> x.handler(0, 0, 23, 0, 0));
    unsupported("a wrong handler of 4", made, x -> x.handler(0, 1, 0, 0, 0));
    argument("handler of class 10", made, x -> x.handler(7, 0, 0, 10, 0));
    outOf("change of instruction 24", made, x -> x.change(0, 24, SET, 0, 0));
    outOf("change of method 8", made, x -> x.change(8, 0, SET, 0, 0));
    outOf("run of 8", made, x -> x.run(8, 0, 9));
  }

  /** Of run() spent() and escaped() are said; they are asked for in RunTest, and set alike here. */
  private static void runsThatEndLeaveTheText() {
    check.says("a call that throws changes nothing, but for what is said of run()");
    Made made = new Small();
    String due = wholeOf(made, made.make());
    ThrowFlow x = made.make();
    check.fails("the fuel ends", IllegalStateException.class, () -> x.run(0, 3, 4));
    check.fails("2 comes out", UnsupportedOperationException.class, () -> x.run(2, 0, 1));
    check.same("all behind them", due, wholeOf(made, x));
  }

  private static void methodsOfEight() {
    check.says("NONE when there are 8 (and nothing is changed)");
    Made made = new Full();
    String due = wholeOf(made, made.make());
    ThrowFlow x = made.make();
    check.same("method()", NONE, x.method());
    check.same("all behind it", due, wholeOf(made, x));
  }

  /** So that the looks above can't be blind: what is not refused shows in what is asked. */
  private static void otherCallsAreSeen() {
    check.says("(this test sees what it looks for)");
    Made made = new Small();
    String before = wholeOf(made, made.make());
    Call[] calls = {
      x -> x.kind(0), ThrowFlow::method, x -> x.add(1, SET, 0, 0), x -> x.handler(1, 9, 9, 0, 0),
      x -> x.change(0, 0, SET, 2, 41), x -> x.change(0, 2, ADD, 0, 3), x -> x.run(0, 3, 200),
    };
    for (int n = 0; n < calls.length; n++) {
      ThrowFlow x = made.make();
      calls[n].on(x);
      check.no("call " + n + " is not seen", before.equals(wholeOf(made, x)));
    }
  }
}
