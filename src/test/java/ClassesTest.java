/** Promises 1 to 3 (a new object, kind, is), and what the terms say of classes; a sentence each. */
public final class ClassesTest implements Codes {
  private static final Check check = new Check();
  private static final int[] NEVER = {-1, 10, 31, 32, 33, 64, MAX, MIN};

  public static void main(String[] args) {
    newHasThreeClasses();
    newHasNoMethods();
    newHasNoRun();
    kindAnswersItsNumber();
    noSuchParent();
    thereAreTen();
    noSuchParentOfTen();
    refusedKindAddsNone();
    zeroHasNoParent();
    parentsAreFollowed();
    longestChainOfParents();
    noSuchClass();
    objectsHaveTheirOwn();
    check.end();
  }

  private static ThrowFlow withTen() {
    ThrowFlow x = new ThrowFlow();
    for (int number = 3; number < 10; number++) {
      x.kind(0);
    }
    return x;
  }

  private static void newHasThreeClasses() {
    check.says("at first there are 0, 1 and 2, the parent of 1 and 2 being 0");
    ThrowFlow x = new ThrowFlow();
    for (int a = 0; a < 3; a++) {
      for (int b = 0; b < 3; b++) {
        check.same("is(" + a + ", " + b + ")", a == b || b == 0 ? 1 : 0, x.is(a, b) ? 1 : 0);
      }
    }
    check.no("is(3, 3)", x.is(3, 3));
    check.no("is(3, 0)", x.is(3, 0));
    check.same("kind(2)", 3, x.kind(2));
  }

  private static void newHasNoMethods() {
    check.says("The first three classes, no methods.");
    ThrowFlow x = new ThrowFlow();
    check.same("out(0)", 0, x.out(0));
    check.same("raises(0, 0)", 0, x.raises(0, 0));
    check.same("catches(0, 0)", 0, x.catches(0, 0));
    check.same("way(0, 0)", 0, x.way(0, 0));
    check.same("step(0, 0, 0)", NONE, x.step(0, 0, 0));
    check.fails("run", IndexOutOfBoundsException.class, () -> x.run(0, 0, 10));
    check.fails("add", IndexOutOfBoundsException.class, () -> x.add(0, SET, 0, 0));
    check.fails("handler", IndexOutOfBoundsException.class, () -> x.handler(0, 0, 0, 0, 0));
    check.fails("change", IndexOutOfBoundsException.class, () -> x.change(0, 0, SET, 0, 0));
    check.same("method()", 0, x.method());
  }

  private static void newHasNoRun() {
    check.says("0 when there was none. / NONE when none did, or there was none.");
    ThrowFlow x = new ThrowFlow();
    check.same("spent()", 0, x.spent());
    check.same("escaped()", NONE, x.escaped());
    check.same("NONE", -1, ThrowFlow.NONE);
  }

  private static void kindAnswersItsNumber() {
    check.says("Adds a class. Answers its number.");
    ThrowFlow x = new ThrowFlow();
    for (int number = 3; number < 10; number++) {
      check.no("is(" + number + ", 0) before", x.is(number, 0));
      check.same("kind(" + (number - 1) + ")", number, x.kind(number - 1));
      check.yes("is(" + number + ", 0)", x.is(number, 0));
      check.yes("is itself", x.is(number, number));
      check.yes("is its parent", x.is(number, number - 1));
      check.no("its parent is it", x.is(number - 1, number));
    }
  }

  private static void noSuchParent() {
    check.says("IllegalArgumentException: there is no such parent");
    ThrowFlow x = new ThrowFlow();
    for (int count = 3; count < 10; count++) {
      int above = count;
      check.fails("kind(" + above + ")", IllegalArgumentException.class, () -> x.kind(above));
      for (int n : NEVER) {
        check.fails("kind(" + n + ")", IllegalArgumentException.class, () -> x.kind(n));
      }
      check.same("kind of the greatest", count, x.kind(count - 1));
    }
  }

  private static void thereAreTen() {
    check.says("UnsupportedOperationException: there are ten");
    ThrowFlow x = new ThrowFlow();
    for (int number = 3; number < 9; number++) {
      x.kind(0);
    }
    check.same("kind(0) of nine", 9, x.kind(0));
    for (int parent = 0; parent < 10; parent++) {
      int p = parent;
      check.fails("kind(" + p + ") of ten", UnsupportedOperationException.class, () -> x.kind(p));
    }
  }

  private static void noSuchParentOfTen() {
    check.says("the exception named first is the one if several would do (kind)");
    ThrowFlow x = withTen();
    for (int n : NEVER) {
      check.fails("kind(" + n + ") of ten", IllegalArgumentException.class, () -> x.kind(n));
    }
  }

  private static void refusedKindAddsNone() {
    check.says("a call that throws changes nothing (kind)");
    ThrowFlow x = new ThrowFlow();
    check.fails("kind(3)", IllegalArgumentException.class, () -> x.kind(3));
    check.no("is(3, 3)", x.is(3, 3));
    check.same("kind(0)", 3, x.kind(0));
    ThrowFlow y = withTen();
    check.fails("kind(1) of ten", UnsupportedOperationException.class, () -> y.kind(1));
    check.no("is(10, 10)", y.is(10, 10));
    check.no("is(10, 1)", y.is(10, 1));
    for (int a = 1; a < 10; a++) {
      check.same("is(" + a + ", 1)", a == 1 ? 1 : 0, y.is(a, 1) ? 1 : 0);
    }
  }

  private static void zeroHasNoParent() {
    check.says("each but 0 has a PARENT with a lesser number");
    ThrowFlow x = withTen();
    check.yes("is(0, 0)", x.is(0, 0));
    for (int b = 1; b < 10; b++) {
      check.no("is(0, " + b + ")", x.is(0, b));
      check.yes("is(" + b + ", 0)", x.is(b, 0));
    }
  }

  private static void parentsAreFollowed() {
    check.says("A class IS one of another one when it is that one, or its parent is.");
    ThrowFlow x = new ThrowFlow();
    int[] parents = {-1, 0, 0, 1, 3, 2, 3, 0, 7, 6};
    for (int number = 3; number < 10; number++) {
      x.kind(parents[number]);
    }
    for (int a = 0; a < 10; a++) {
      for (int b = 0; b < 10; b++) {
        int up = a;
        while (up != b && up != 0) {
          up = parents[up];
        }
        check.same("is(" + a + ", " + b + ")", up == b ? 1 : 0, x.is(a, b) ? 1 : 0);
      }
    }
  }

  private static void longestChainOfParents() {
    check.says("A class IS one of another one when it is that one, or its parent is. (nine in a row)");
    ThrowFlow x = new ThrowFlow();
    for (int number = 3; number < 10; number++) {
      x.kind(number - 1);
    }
    check.yes("is(9, 2)", x.is(9, 2));
    check.yes("is(9, 0)", x.is(9, 0));
    check.no("is(9, 1)", x.is(9, 1));
    check.no("is(2, 9)", x.is(2, 9));
  }

  private static void noSuchClass() {
    check.says("false when there is no such class");
    ThrowFlow x = new ThrowFlow();
    ThrowFlow ten = withTen();
    for (int n : NEVER) {
      noneIs(x, n);
      noneIs(ten, n);
    }
    for (int n = 3; n < 10; n++) {
      noneIs(x, n);
    }
  }

  private static void noneIs(ThrowFlow x, int n) {
    check.no("is(" + n + ", 0)", x.is(n, 0));
    check.no("is(0, " + n + ")", x.is(0, n));
    check.no("is(2, " + n + ")", x.is(2, n));
    check.no("is(" + n + ", " + n + ")", x.is(n, n));
  }

  private static void objectsHaveTheirOwn() {
    check.says("A new object: The first three classes, no methods. (beside another object)");
    ThrowFlow full = withTen();
    full.method();
    full.add(0, THROW, 9, 0);
    check.fails("run", UnsupportedOperationException.class, () -> full.run(0, 0, 1));
    ThrowFlow x = new ThrowFlow();
    check.no("is(3, 0)", x.is(3, 0));
    check.same("out(0)", 0, x.out(0));
    check.same("spent()", 0, x.spent());
    check.same("escaped()", NONE, x.escaped());
    check.same("method()", 0, x.method());
    check.same("kind(0)", 3, x.kind(0));
    check.same("out(0) of the other", 512, full.out(0));
    check.same("escaped() of the other", 9, full.escaped());
  }
}
