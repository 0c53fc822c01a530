/** Promises 4 to 7: method, add, handler and change; a sentence each. */
public final class TextTest implements Codes {
  private static final Check check = new Check();
  private static final int[] NO_METHOD = {-1, 8, 9, 24, MAX, MIN};

  public static void main(String[] args) {
    methodsInOrder();
    noMoreThanEightMethods();
    newMethodsAreEmpty();

    addAnswersItsNumber();
    addToNoMethod();
    addToTwentyFour();
    addNamesTheFirst();
    codesAre0To9();
    registersAre0To3();
    instructionsAre0To23();
    methodsAre0To7();
    callsOfMethodsNotThere();
    throwOfAClassThatIsThere();
    handlersAre0To3();
    againOfHandlersNotThere();
    unusedMayBeAny();

    handlerAnswersItsNumber();
    handlerOfNoMethod();
    handlerOfFour();
    handlerNamesTheFirst();
    firstLastAndTargetAre0To23();
    firstIsNotAboveLast();
    handlerOfNoSuchClass();

    changePutsInPlace();
    changeAnswersTheCodeItHad();
    changeOfNoMethod();
    changeOfNoInstruction();
    changeNamesTheFirst();
    changeOfTwentyFour();
    changeRefusesAsAdd();
    check.end();
  }

  private static String written(int... numbers) {
    StringBuilder line = new StringBuilder();
    for (int n : numbers) {
      line.append(line.length() == 0 ? "" : ", ").append(n);
    }
    return "(" + line + ")";
  }

  private static ThrowFlow withInstructions(int count) {
    ThrowFlow x = Check.withMethods(2);
    for (int i = 0; i < count; i++) {
      x.add(0, SET, 0, i);
    }
    return x;
  }

  private static void taken(int code, int a, int b) {
    ThrowFlow x = withInstructions(1);
    check.same("add" + written(0, code, a, b), 1, x.add(0, code, a, b));
    check.same("change" + written(0, 0, code, a, b), SET, x.change(0, 0, code, a, b));
    check.same("the changed one had it", code, x.change(0, 0, SET, 0, 0));
  }

  private static void refused(int code, int a, int b) {
    ThrowFlow x = withInstructions(1);
    check.fails("add" + written(0, code, a, b), IllegalArgumentException.class,
        () -> x.add(0, code, a, b));
    check.fails("change" + written(0, 0, code, a, b), IllegalArgumentException.class,
        () -> x.change(0, 0, code, a, b));
    check.same("none was added", 1, x.add(0, GIVE, 0, 0));
    check.same("none was changed", SET, x.change(0, 0, SET, 0, 0));
  }

  private static void methodsInOrder() {
    check.says("METHODS are 0 .. 7 in the order in which they were made");
    ThrowFlow x = new ThrowFlow();
    for (int number = 0; number < 8; number++) {
      int n = number;
      check.fails("run before", IndexOutOfBoundsException.class, () -> x.run(n, 0, 1));
      check.same("method()", number, x.method());
      check.same("add to it", 0, x.add(number, SET, 0, 100 + number));
    }
    for (int number = 0; number < 8; number++) {
      check.same("run of " + number, 100 + number, x.run(number, 5, 1));
    }
  }

  private static void noMoreThanEightMethods() {
    check.says("NONE when there are 8");
    ThrowFlow x = Check.withMethods(7);
    check.same("the eighth", 7, x.method());
    x.add(7, THROW, 1, 0);
    check.same("a ninth", NONE, x.method());
    check.same("a tenth", NONE, x.method());
    check.fails("run of 8", IndexOutOfBoundsException.class, () -> x.run(8, 0, 1));
    check.same("out(8)", 0, x.out(8));
    check.same("out(7) as before", 2, x.out(7));
    check.same("out(0) as before", 0, x.out(0));
  }

  private static void newMethodsAreEmpty() {
    check.says("Adds a method, without instructions and handlers.");
    ThrowFlow x = new ThrowFlow();
    for (int number = 0; number < 8; number++) {
      int n = x.method();
      check.same("out", 0, x.out(n));
      check.same("raises", 0, x.raises(n, 0));
      check.same("catches", 0, x.catches(n, 0));
      check.same("run gives x", 77, x.run(n, 77, 0));
      check.fails("change", IndexOutOfBoundsException.class, () -> x.change(n, 0, SET, 0, 0));
      check.same("its first instruction", 0, x.add(n, THROW, 0, 0));
      check.same("which no handler catches", 1, x.out(n));
      check.same("its first handler", 0, x.handler(n, 0, 0, 0, 0));
    }
  }

  private static void addAnswersItsNumber() {
    check.says("Puts an instruction behind those of a method. Answers its number.");
    ThrowFlow x = Check.withMethods(2);
    for (int number = 0; number < 24; number++) {
      check.same("add to 0", number, x.add(0, SET, 0, 50 + number));
      check.same("it is the last", 50 + number, x.run(0, 0, 24));
      check.same("add to 1", number, x.add(1, number % 10, 1, 2));
    }
  }

  private static void addToNoMethod() {
    check.says("add: IndexOutOfBoundsException: there is no such method");
    for (int count = 0; count < 8; count++) {
      ThrowFlow x = Check.withMethods(count);
      int above = count;
      check.fails("one above", IndexOutOfBoundsException.class, () -> x.add(above, SET, 0, 0));
      for (int m : NO_METHOD) {
        check.fails("add to " + m, IndexOutOfBoundsException.class, () -> x.add(m, SET, 0, 0));
      }
      check.same("method()", count, x.method());
      check.same("add to the greatest", 0, x.add(count, SET, 0, 0));
    }
  }

  private static void addToTwentyFour() {
    check.says("add: UnsupportedOperationException: it has 24");
    ThrowFlow x = withInstructions(23);
    check.same("the 24th", 23, x.add(0, SET, 0, 23));
    for (int code = 0; code < 10; code++) {
      int c = code;
      check.fails("a 25th", UnsupportedOperationException.class, () -> x.add(0, c, 0, 0));
    }
    check.same("none was added", 23, x.run(0, 0, 24));
    check.same("spent()", 24, x.spent());
    check.same("raises(0, 24)", 0, x.raises(0, 24));
    check.same("another method has its own", 0, x.add(1, SET, 0, 0));
  }

  private static void addNamesTheFirst() {
    check.says("the exception named first is the one if several would do (add)");
    ThrowFlow x = withInstructions(24);
    check.fails("no method, wrong code", IndexOutOfBoundsException.class, () -> x.add(2, 10, 0, 0));
    check.fails("no method, wrong a", IndexOutOfBoundsException.class, () -> x.add(-1, SET, 4, 0));
    check.fails("full, wrong code", UnsupportedOperationException.class, () -> x.add(0, 10, 0, 0));
    check.fails("full, code -1", UnsupportedOperationException.class, () -> x.add(0, -1, 0, 0));
    check.fails("full, wrong a", UnsupportedOperationException.class, () -> x.add(0, SET, 4, 0));
    check.fails("full, wrong b", UnsupportedOperationException.class, () -> x.add(0, CALL, 0, 8));
    check.fails("full, no class", UnsupportedOperationException.class, () -> x.add(0, THROW, 3, 0));
  }

  private static void codesAre0To9() {
    check.says("code is not 0 .. 9");
    for (int code : new int[] {-1, 10, 11, 16, 256, MAX, MIN}) {
      refused(code, 0, 0);
    }
    for (int code = 0; code < 10; code++) {
      taken(code, 0, 0);
    }
  }

  private static void registersAre0To3() {
    check.says("registers where they name one (REGISTERS are 0 .. 3)");
    for (int code : new int[] {SET, ADD, SUB, DIV, ZERO, CALL, GIVE}) {
      for (int n : new int[] {-1, 4, 5, MAX, MIN}) {
        refused(code, n, 0);
      }
      for (int register = 0; register < 4; register++) {
        taken(code, register, 0);
      }
    }
    for (int code : new int[] {ADD, SUB, DIV}) {
      for (int n : new int[] {-1, 4, 5, MAX, MIN}) {
        refused(code, 0, n);
        refused(code, n, n);
      }
      for (int register = 0; register < 4; register++) {
        taken(code, 3, register);
      }
    }
  }

  private static void instructionsAre0To23() {
    check.says("0 .. 23 for instructions");
    for (int n : new int[] {-1, 24, 25, MAX, MIN}) {
      refused(JUMP, n, 0);
      refused(ZERO, 0, n);
    }
    for (int n = 0; n < 24; n++) {
      taken(JUMP, n, 0);
      taken(ZERO, 0, n);
    }
  }

  private static void methodsAre0To7() {
    check.says("0 .. 7 for methods (also such as are not made yet)");
    for (int n : new int[] {-1, 8, 9, MAX, MIN}) {
      refused(CALL, 0, n);
    }
    for (int m = 0; m < 8; m++) {
      taken(CALL, 0, m);
    }
  }

  private static void callsOfMethodsNotThere() {
    check.says("a CALL of one that is not there gives 0");
    for (int absent = 1; absent < 8; absent++) {
      ThrowFlow x = Check.withMethods(1);
      x.add(0, CALL, 0, absent);
      check.same("run", 0, x.run(0, 5, 1));
      check.same("spent()", 1, x.spent());
      check.same("raises", 4, x.raises(0, 0));
      for (int m = 1; m < absent; m++) {
        x.method();
      }
      check.same("run with all below it", 0, x.run(0, 5, 1));
      x.method();
      check.same("run when it is made", 5, x.run(0, 5, 1));
      x.add(absent, THROW, 1, 0);
      check.same("raises when it is made", 6, x.raises(0, 0));
    }
  }

  private static void throwOfAClassThatIsThere() {
    check.says("a class that is there for THROW");
    for (int n : new int[] {-1, 3, 4, 9, 10, MAX, MIN}) {
      refused(THROW, n, 0);
    }
    for (int c = 0; c < 3; c++) {
      taken(THROW, c, 0);
    }
    ThrowFlow x = Check.withMethods(1);
    for (int c = 3; c < 10; c++) {
      int n = c;
      check.fails("THROW of " + n, IllegalArgumentException.class, () -> x.add(0, THROW, n, 0));
      x.kind(c - 1);
      check.same("THROW of " + n + " when it is made", c - 3, x.add(0, THROW, n, 0));
    }
    check.fails("THROW of 10", IllegalArgumentException.class, () -> x.add(0, THROW, 10, 0));
  }

  private static void handlersAre0To3() {
    check.says("0 .. 3 for a handler (also one that is not there yet)");
    for (int n : new int[] {-1, 4, 5, MAX, MIN}) {
      refused(AGAIN, n, 0);
    }
    for (int h = 0; h < 4; h++) {
      taken(AGAIN, h, 0);
    }
  }

  private static void againOfHandlersNotThere() {
    check.says("if it is not there nothing happens");
    for (int there = 0; there < 4; there++) {
      ThrowFlow x = Check.withMethods(1);
      x.add(0, there == 0 ? SET : THROW, 1, 0);
      x.add(0, AGAIN, there, 0);
      for (int h = 0; h < there; h++) {
        x.handler(0, 0, 0, 0, 1);
      }
      check.same("run", 6, x.run(0, 6, 2));
      check.same("spent()", 2, x.spent());
      check.same("raises", 0, x.raises(0, 1));
      check.same("out", 0, x.out(0));
      x.handler(0, 1, 1, 0, 2);
      check.same("raises when it is made", 0, x.raises(0, 1));
      check.same("run when it is made", 6, x.run(0, 6, 2));
    }
  }

  private static void unusedMayBeAny() {
    check.says("What a code does not use may be any.");
    for (int n : new int[] {-1, 4, 8, 24, MAX, MIN}) {
      taken(SET, 0, n);
      taken(JUMP, 0, n);
      taken(THROW, 0, n);
      taken(AGAIN, 0, n);
      taken(GIVE, 0, n);
    }
  }

  private static void handlerAnswersItsNumber() {
    check.says("Puts a handler behind those of a method. Answers its number.");
    ThrowFlow x = Check.withMethods(2);
    for (int c = 0; c < 3; c++) {
      x.add(0, THROW, c, 0);
    }
    int[] kinds = {2, 1, 0, 0};
    for (int number = 0; number < 4; number++) {
      check.same("handler of 0", number, x.handler(0, 0, 2, kinds[number], 3));
      check.same("handler of 1", number, x.handler(1, 0, 23, 0, 23));
    }
    int[] due = {4, 2, 1, 0};
    for (int h = 0; h < 4; h++) {
      check.same("the order shows in catches(0, " + h + ")", due[h], x.catches(0, h));
    }
  }

  private static void handlerOfNoMethod() {
    check.says("handler: IndexOutOfBoundsException: there is no such method");
    for (int count = 0; count < 8; count++) {
      ThrowFlow x = Check.withMethods(count);
      int above = count;
      check.fails("one above", IndexOutOfBoundsException.class, () -> x.handler(above, 0, 0, 0, 0));
      for (int m : NO_METHOD) {
        check.fails("of " + m, IndexOutOfBoundsException.class, () -> x.handler(m, 0, 0, 0, 0));
      }
      check.same("method()", count, x.method());
      check.same("handler of the greatest", 0, x.handler(count, 0, 0, 0, 0));
    }
  }

  private static void handlerOfFour() {
    check.says("handler: UnsupportedOperationException: it has 4");
    ThrowFlow x = Check.withMethods(2);
    x.add(0, THROW, 1, 0);
    for (int h = 0; h < 3; h++) {
      x.handler(0, 1, 1, 0, 0);
    }
    check.same("the fourth", 3, x.handler(0, 2, 2, 0, 0));
    check.fails("a fifth", UnsupportedOperationException.class, () -> x.handler(0, 0, 0, 0, 0));
    check.same("none was added", 2, x.out(0));
    check.same("catches(0, 4)", 0, x.catches(0, 4));
    check.same("another method has its own", 0, x.handler(1, 0, 0, 0, 0));
  }

  private static void handlerNamesTheFirst() {
    check.says("the exception named first is the one if several would do (handler)");
    ThrowFlow x = Check.withMethods(1);
    check.fails("no method, wrong rest", IndexOutOfBoundsException.class,
        () -> x.handler(1, 3, 2, 9, 24));
    for (int h = 0; h < 4; h++) {
      x.handler(0, 0, 0, 0, 0);
    }
    check.fails("no method, wrong rest", IndexOutOfBoundsException.class,
        () -> x.handler(-1, 3, 2, 9, 24));
    check.fails("full, first", UnsupportedOperationException.class, () -> x.handler(0, -1, 0, 0, 0));
    check.fails("full, last", UnsupportedOperationException.class, () -> x.handler(0, 0, 24, 0, 0));
    check.fails("full, above", UnsupportedOperationException.class, () -> x.handler(0, 3, 2, 0, 0));
    check.fails("full, class", UnsupportedOperationException.class, () -> x.handler(0, 0, 0, 3, 0));
    check.fails("full, target", UnsupportedOperationException.class, () -> x.handler(0, 0, 0, 0, 24));
  }

  private static void handlerTaken(int first, int last, int kind, int target) {
    ThrowFlow x = Check.withMethods(1);
    check.same("handler" + written(first, last, kind, target), 0,
        x.handler(0, first, last, kind, target));
    check.same("the next has its number", 1, x.handler(0, 0, 0, 0, 0));
  }

  private static void handlerRefused(int first, int last, int kind, int target) {
    ThrowFlow x = Check.withMethods(1);
    x.add(0, THROW, 0, 0);
    check.fails("handler" + written(first, last, kind, target), IllegalArgumentException.class,
        () -> x.handler(0, first, last, kind, target));
    check.same("none was added", 1, x.out(0));
    check.same("the next has its number", 0, x.handler(0, 0, 0, 0, 1));
  }

  private static void firstLastAndTargetAre0To23() {
    check.says("first, last or target is not 0 .. 23");
    for (int n : new int[] {-1, MIN}) {
      handlerRefused(n, 0, 0, 0);
      handlerRefused(n, n, 0, 0);
      handlerRefused(0, n, 0, 0);
      handlerRefused(0, 0, 0, n);
    }
    for (int n : new int[] {24, 25, MAX}) {
      handlerRefused(n, n, 0, 0);
      handlerRefused(n, 23, 0, 0);
      handlerRefused(0, n, 0, 0);
      handlerRefused(23, n, 0, 0);
      handlerRefused(0, 0, 0, n);
    }
    handlerRefused(MIN, MAX, 0, 0);
    for (int n : new int[] {0, 1, 22, 23}) {
      handlerTaken(n, 23, 0, 0);
      handlerTaken(0, n, 0, 0);
      handlerTaken(0, 0, 0, n);
    }
  }

  private static void firstIsNotAboveLast() {
    check.says("first is above last");
    for (int n = 0; n < 24; n++) {
      handlerTaken(n, n, 0, 0);
      if (n > 0) {
        handlerTaken(n - 1, n, 0, 0);
        handlerRefused(n, n - 1, 0, 0);
      }
    }
    handlerRefused(23, 0, 0, 0);
  }

  private static void handlerOfNoSuchClass() {
    check.says("handler: IllegalArgumentException: there is no such class");
    for (int n : new int[] {-1, 3, 4, 9, 10, 31, 32, MAX, MIN}) {
      handlerRefused(0, 0, n, 0);
    }
    for (int c = 0; c < 3; c++) {
      handlerTaken(0, 0, c, 0);
    }
    ThrowFlow x = Check.withMethods(8);
    for (int c = 3; c < 10; c++) {
      int n = c;
      check.fails("class " + n, IllegalArgumentException.class, () -> x.handler(0, 0, 0, n, 0));
      x.kind(0);
      check.same("class " + n + " when it is made", 0, x.handler(c - 2, 0, 0, n, 0));
    }
    check.fails("class 10", IllegalArgumentException.class, () -> x.handler(0, 0, 0, 10, 0));
  }

  private static void changePutsInPlace() {
    check.says("Instruction i of a method gets this code, a and b, in place of what it had.");
    ThrowFlow x = withInstructions(3);
    x.add(1, SET, 0, 40);
    check.same("run before", 2, x.run(0, 9, 3));
    x.change(0, 2, SET, 3, 30);
    check.same("the last changed", 1, x.run(0, 9, 3));
    x.change(0, 0, SET, 2, 20);
    x.change(0, 1, ADD, 0, 2);
    check.same("all changed", 29, x.run(0, 9, 3));
    check.same("as many as before", 3, x.spent());
    check.same("the other method as before", 40, x.run(1, 9, 1));
    check.same("the next one's number", 3, x.add(0, GIVE, 3, 0));
    check.same("and all four", 30, x.run(0, 9, 4));
  }

  private static void changeAnswersTheCodeItHad() {
    check.says("Answers the code it had.");
    ThrowFlow x = Check.withMethods(1);
    for (int code = 0; code < 10; code++) {
      x.add(0, code, 1, 1);
    }
    for (int i = 0; i < 10; i++) {
      check.same("change", i, x.change(0, i, 9 - i, 0, 0));
      check.same("change again", 9 - i, x.change(0, i, i, 0, 0));
      check.same("change to the same", i, x.change(0, i, i, 0, 0));
    }
  }

  private static void changeOfNoMethod() {
    check.says("change: IndexOutOfBoundsException: there is no such method");
    ThrowFlow x = withInstructions(1);
    check.fails("one above", IndexOutOfBoundsException.class, () -> x.change(2, 0, SET, 0, 0));
    for (int m : NO_METHOD) {
      check.fails("of " + m, IndexOutOfBoundsException.class, () -> x.change(m, 0, SET, 0, 0));
    }
    x.method();
    check.fails("made, but empty", IndexOutOfBoundsException.class, () -> x.change(2, 0, SET, 0, 0));
    x.add(2, GIVE, 0, 0);
    check.same("made, with one", GIVE, x.change(2, 0, SET, 0, 0));
  }

  private static void changeOfNoInstruction() {
    check.says("change: IndexOutOfBoundsException: there is no such .. instruction");
    ThrowFlow x = Check.withMethods(2);
    x.add(1, SET, 0, 0);
    for (int count = 0; count < 24; count++) {
      int above = count;
      check.fails("one above", IndexOutOfBoundsException.class, () -> x.change(0, above, SET, 0, 0));
      x.add(0, GIVE, 0, 0);
      check.same("the greatest", GIVE, x.change(0, count, SET, 0, 0));
    }
    for (int i : new int[] {-1, 24, 25, MAX, MIN}) {
      check.fails("instruction " + i, IndexOutOfBoundsException.class,
          () -> x.change(0, i, SET, 0, 0));
    }
    check.fails("of the other method", IndexOutOfBoundsException.class,
        () -> x.change(1, 1, SET, 0, 0));
  }

  private static void changeNamesTheFirst() {
    check.says("the exception named first is the one if several would do (change)");
    ThrowFlow x = withInstructions(1);
    check.fails("no method, wrong code", IndexOutOfBoundsException.class,
        () -> x.change(2, 0, 10, 0, 0));
    check.fails("no instruction, wrong code", IndexOutOfBoundsException.class,
        () -> x.change(0, 1, 10, 0, 0));
    check.fails("instruction -1, wrong a", IndexOutOfBoundsException.class,
        () -> x.change(0, -1, SET, 4, 0));
    check.fails("no instruction, no class", IndexOutOfBoundsException.class,
        () -> x.change(0, 24, THROW, 3, 0));
    check.fails("wrong code alone", IllegalArgumentException.class, () -> x.change(0, 0, 10, 0, 0));
  }

  private static void changeOfTwentyFour() {
    check.says("change: IndexOutOfBoundsException, IllegalArgumentException (and none for 24)");
    ThrowFlow x = withInstructions(24);
    for (int i = 0; i < 24; i++) {
      check.same("change of " + i, SET, x.change(0, i, SET, 0, 70 + i));
    }
    check.same("run", 93, x.run(0, 0, 24));
  }

  /** Every code with every pair of numbers about the edges: what add refuses change refuses too. */
  private static void changeRefusesAsAdd() {
    check.says("IllegalArgumentException: as for add()");
    int[] edges = {MIN, -1, 0, 2, 3, 4, 7, 8, 23, 24, MAX};
    for (int code = -1; code <= 10; code++) {
      for (int a : edges) {
        for (int b : edges) {
          if (isAllowed(code, a, b)) {
            taken(code, a, b);
          } else {
            refused(code, a, b);
          }
        }
      }
    }
  }

  private static boolean isAllowed(int code, int a, int b) {
    boolean registerA = a >= 0 && a <= 3;
    boolean registerB = b >= 0 && b <= 3;
    return switch (code) {
      case SET, GIVE -> registerA;
      case ADD, SUB, DIV -> registerA && registerB;
      case JUMP -> a >= 0 && a <= 23;
      case ZERO -> registerA && b >= 0 && b <= 23;
      case CALL -> registerA && b >= 0 && b <= 7;
      case THROW -> a >= 0 && a <= 2;
      case AGAIN -> a >= 0 && a <= 3;
      default -> false;
    };
  }
}
