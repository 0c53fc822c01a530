/** Promises 1 to 3: a new object, kind and is. */
public final class ClassesTest {
  private static final Check check = new Check();

  public static void main(String[] args) {
    newObject();
    kindAnswersNumbers();
    kindRefuses();
    isFollowsParents();
    isOfNoClass();
    check.end();
  }

  private static void newObject() {
    ThrowFlow x = new ThrowFlow();
    for (int a = 0; a < 3; a++) {
      for (int b = 0; b < 3; b++) {
        check.same("new: is(" + a + ", " + b + ")", a == b || b == 0 ? 1 : 0, x.is(a, b) ? 1 : 0);
      }
    }
    check.no("new: is(3, 3)", x.is(3, 3));
    check.same("new: out(0)", 0, x.out(0));
    check.same("new: raises(0, 0)", 0, x.raises(0, 0));
    check.same("new: catches(0, 0)", 0, x.catches(0, 0));
    check.same("new: way(0, 0)", 0, x.way(0, 0));
    check.same("new: step(0, 0, 0)", ThrowFlow.NONE, x.step(0, 0, 0));
    check.same("new: spent()", 0, x.spent());
    check.same("new: escaped()", ThrowFlow.NONE, x.escaped());
    check.fails("new: run", IndexOutOfBoundsException.class, () -> x.run(0, 0, 10));
    check.fails("new: add", IndexOutOfBoundsException.class, () -> x.add(0, 0, 0, 0));
    check.same("new: method()", 0, x.method());
    check.same("new: kind(0)", 3, x.kind(0));
    check.same("NONE", -1, ThrowFlow.NONE);
  }

  private static void kindAnswersNumbers() {
    ThrowFlow x = new ThrowFlow();
    for (int number = 3; number < 10; number++) {
      check.same("kind", number, x.kind(number - 1));
    }
    check.yes("a chain of parents: is(9, 2)", x.is(9, 2));
    check.yes("a chain of parents: is(9, 0)", x.is(9, 0));
    check.no("a chain of parents: is(9, 1)", x.is(9, 1));
  }

  private static void kindRefuses() {
    ThrowFlow x = new ThrowFlow();
    check.fails("kind(3) of three", IllegalArgumentException.class, () -> x.kind(3));
    check.fails("kind(-1)", IllegalArgumentException.class, () -> x.kind(-1));
    check.fails("kind(MAX)", IllegalArgumentException.class, () -> x.kind(Integer.MAX_VALUE));
    check.fails("kind(MIN)", IllegalArgumentException.class, () -> x.kind(Integer.MIN_VALUE));
    check.same("a refused class is not there", 3, x.kind(0));
    for (int number = 4; number < 10; number++) {
      x.kind(0);
    }
    check.fails("kind(0) of ten", UnsupportedOperationException.class, () -> x.kind(0));
    check.fails("kind(9) of ten", UnsupportedOperationException.class, () -> x.kind(9));
    check.fails("kind(10) of ten", IllegalArgumentException.class, () -> x.kind(10));
    check.fails("kind(-1) of ten", IllegalArgumentException.class, () -> x.kind(-1));
    check.no("is(10, 0)", x.is(10, 0));
  }

  private static void isFollowsParents() {
    ThrowFlow x = new ThrowFlow();
    int[] parents = {-1, 0, 0, 1, 3, 2, 3, 0, 7, 6};
    for (int number = 3; number < 10; number++) {
      x.kind(parents[number]);
    }
    for (int a = 0; a < 10; a++) {
      for (int b = 0; b < 10; b++) {
        int up = a;
        while (up != b && up != 0) {
          up = parents[up];
        }
        check.same("is(" + a + ", " + b + ")", up == b ? 1 : 0, x.is(a, b) ? 1 : 0);
      }
    }
  }

  private static void isOfNoClass() {
    ThrowFlow x = new ThrowFlow();
    int[] none = {-1, 3, 9, 10, 31, 32, 33, 64, Integer.MAX_VALUE, Integer.MIN_VALUE};
    for (int n : none) {
      check.no("is(" + n + ", 0)", x.is(n, 0));
      check.no("is(0, " + n + ")", x.is(0, n));
      check.no("is(" + n + ", " + n + ")", x.is(n, n));
    }
  }
}
