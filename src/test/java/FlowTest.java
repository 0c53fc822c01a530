/** Promises 8 to 12: out, raises, catches, way and step. */
public final class FlowTest {
  private static final Check check = new Check();
  private static final int MAX = Integer.MAX_VALUE;
  private static final int MIN = Integer.MIN_VALUE;

  public static void main(String[] args) {
    eachCodeRaises();
    unreachedInstructionsCount();
    firstFittingHandlerCatches();
    handlersOfParentsCatch();
    againRaisesWhatItsHandlerCatches();
    againOfItselfRaisesNothing();
    callsPassOnWhatComesOut();
    callsInACircle();
    textChangesAreSeen();
    whatIsNotThere();
    waysOfOne();
    shortestWay();
    lesserNumbersFirst();
    wayThroughAgain();
    longWay();
    wayOfNothing();
    check.end();
  }

  private static void wayIs(String what, ThrowFlow x, int method, int kind, int... places) {
    check.same(what + ": way", places.length, x.way(method, kind));
    for (int k = 0; k < places.length; k++) {
      check.same(what + ": step " + k, places[k], x.step(method, kind, k));
    }
    check.same(what + ": step behind", ThrowFlow.NONE, x.step(method, kind, places.length));
    check.same(what + ": step -1", ThrowFlow.NONE, x.step(method, kind, -1));
    check.same(what + ": step MAX", ThrowFlow.NONE, x.step(method, kind, MAX));
    check.same(what + ": step MIN", ThrowFlow.NONE, x.step(method, kind, MIN));
  }

  private static void eachCodeRaises() {
    ThrowFlow x = Check.withMethods(2);
    for (int code = 0; code < 10; code++) {
      x.add(0, code, 0, 1);
    }
    int[] due = {0, 0, 0, 2, 0, 0, 4, 1, 0, 0};
    for (int i = 0; i < 10; i++) {
      check.same("raises of code " + i, due[i], x.raises(0, i));
    }
    check.same("out", 7, x.out(0));
    check.same("out of the other", 0, x.out(1));
  }

  private static void unreachedInstructionsCount() {
    ThrowFlow x = Check.withMethods(1);
    x.add(0, 9, 0, 0);
    x.add(0, 7, 0, 0);
    x.add(0, 0, 1, 5);
    x.add(0, 3, 0, 1);
    check.same("out", 3, x.out(0));
    check.same("it gives", 4, x.run(0, 4, 10));
  }

  private static void firstFittingHandlerCatches() {
    ThrowFlow x = Check.withMethods(1);
    x.add(0, 7, 1, 0);
    x.add(0, 7, 1, 0);
    x.add(0, 7, 1, 0);
    x.add(0, 7, 2, 0);
    x.handler(0, 1, 2, 2, 0);
    x.handler(0, 1, 2, 1, 0);
    x.handler(0, 2, 3, 0, 0);
    check.same("the first is of another class", 0, x.catches(0, 0));
    check.same("the second catches", 2, x.catches(0, 1));
    check.same("the third catches 2 alone", 4, x.catches(0, 2));
    check.same("what is not covered comes out", 2, x.out(0));
    wayIs("from the one not covered", x, 0, 1, 0);
    x.handler(0, 0, 0, 1, 0);
    check.same("the fourth catches", 2, x.catches(0, 3));
    check.same("all is caught", 0, x.out(0));
  }

  private static void handlersOfParentsCatch() {
    ThrowFlow x = Check.withMethods(1);
    x.kind(1);
    x.kind(3);
    x.add(0, 7, 4, 0);
    x.add(0, 7, 1, 0);
    x.add(0, 7, 0, 0);
    x.handler(0, 0, 2, 3, 0);
    check.same("4 is one of 3, 1 is not", 16, x.catches(0, 0));
    check.same("out", 3, x.out(0));
    x.handler(0, 0, 23, 1, 0);
    check.same("1 is one of 1, 0 is not", 2, x.catches(0, 1));
    check.same("out", 1, x.out(0));
    x.handler(0, 2, 2, 0, 0);
    check.same("out", 0, x.out(0));
  }

  private static void againRaisesWhatItsHandlerCatches() {
    ThrowFlow x = Check.withMethods(1);
    x.add(0, 8, 0, 0);
    x.add(0, 7, 1, 0);
    x.add(0, 7, 2, 0);
    x.add(0, 8, 1, 0);
    check.same("no handler yet", 0, x.raises(0, 0));
    x.handler(0, 1, 1, 0, 0);
    x.handler(0, 0, 2, 0, 0);
    check.same("AGAIN of 0", 2, x.raises(0, 0));
    check.same("AGAIN of 1, what the other AGAIN raised too", 6, x.raises(0, 3));
    check.same("catches of 0", 2, x.catches(0, 0));
    check.same("catches of 1", 6, x.catches(0, 1));
    check.same("out", 6, x.out(0));
    wayIs("1 by two AGAINs", x, 0, 1, 3, 0, 1);
    wayIs("2 by one AGAIN", x, 0, 2, 3, 2);
  }

  private static void againOfItselfRaisesNothing() {
    ThrowFlow x = Check.withMethods(1);
    x.add(0, 8, 0, 0);
    x.add(0, 8, 1, 0);
    x.handler(0, 0, 1, 0, 0);
    x.handler(0, 0, 1, 0, 0);
    check.same("raises", 0, x.raises(0, 0));
    check.same("catches", 0, x.catches(0, 0));
    x.add(0, 7, 1, 0);
    check.same("raises, not covered", 0, x.raises(0, 0));
    x.change(0, 0, 7, 2, 0);
    check.same("catches", 4, x.catches(0, 0));
    check.same("an AGAIN of a handler that is never the first", 0, x.raises(0, 1));
    check.same("out", 2, x.out(0));
  }

  private static void callsPassOnWhatComesOut() {
    ThrowFlow x = Check.withMethods(3);
    x.add(0, 6, 0, 1);
    x.add(1, 6, 0, 2);
    x.add(2, 3, 0, 0);
    x.add(2, 7, 0, 0);
    check.same("raises of the outer CALL", 7, x.raises(0, 0));
    x.handler(1, 0, 0, 1, 0);
    check.same("the middle one catches 1", 2, x.catches(1, 0));
    check.same("out of the middle", 5, x.out(1));
    check.same("out of the outer", 5, x.out(0));
    x.handler(0, 0, 0, 2, 0);
    check.same("the outer one catches 2", 4, x.catches(0, 0));
    check.same("out of the outer", 1, x.out(0));
    wayIs("0 from the inner", x, 0, 0, 0, 24, 49);
    wayIs("1 is caught", x, 0, 1);
    wayIs("1 from the inner", x, 2, 1, 48);
  }

  private static void callsInACircle() {
    ThrowFlow x = Check.withMethods(3);
    x.add(0, 6, 0, 1);
    x.add(1, 6, 0, 2);
    x.add(2, 6, 0, 0);
    check.same("2 alone", 4, x.out(0));
    x.add(1, 7, 1, 0);
    for (int m = 0; m < 3; m++) {
      check.same("out of each", 6, x.out(m));
    }
    wayIs("from 2 round to 1", x, 2, 1, 48, 0, 25);
    for (int m = 0; m < 3; m++) {
      x.handler(m, 0, 0, 0, 0);
    }
    check.same("out", 0, x.out(0));
    check.same("out", 2, x.out(1));
    check.same("catches", 6, x.catches(0, 0));
    check.same("catches", 4, x.catches(1, 0));
  }

  private static void textChangesAreSeen() {
    ThrowFlow x = Check.withMethods(2);
    x.add(0, 6, 0, 1);
    check.same("at first", 4, x.out(0));
    x.add(1, 7, 1, 0);
    check.same("after add", 6, x.out(0));
    x.change(1, 0, 7, 0, 0);
    check.same("after change", 5, x.out(0));
    check.same("its way", 2, x.way(0, 0));
    x.handler(1, 0, 0, 0, 0);
    check.same("after handler", 4, x.out(0));
    check.same("its way", 0, x.way(0, 0));
    check.same("no step", ThrowFlow.NONE, x.step(0, 0, 0));
    check.same("raises", 1, x.raises(1, 0));
    x.change(1, 0, 0, 0, 0);
    check.same("raises after change", 0, x.raises(1, 0));
    check.same("catches after change", 0, x.catches(1, 0));
  }

  private static void whatIsNotThere() {
    ThrowFlow x = Check.withMethods(2);
    x.add(0, 7, 0, 0);
    x.add(1, 7, 0, 0);
    x.handler(1, 0, 0, 0, 0);
    int[] none = {-1, 2, 8, 24, MAX, MIN};
    for (int n : none) {
      check.same("out", 0, x.out(n));
      check.same("raises", 0, x.raises(n, 0));
      check.same("raises", 0, x.raises(0, n));
      check.same("catches", 0, x.catches(n, 0));
      check.same("catches", 0, x.catches(1, n));
      check.same("way", 0, x.way(n, 0));
      check.same("step", ThrowFlow.NONE, x.step(n, 0, 0));
      if (n != 2) {
        check.same("way", 0, x.way(0, n));
        check.same("step", ThrowFlow.NONE, x.step(0, n, 0));
      }
    }
    check.same("raises behind the last", 0, x.raises(0, 1));
    check.same("catches of none", 0, x.catches(0, 0));
    check.same("way of class 32", 0, x.way(0, 32));
    check.same("step of class 32", ThrowFlow.NONE, x.step(0, 32, 0));
  }

  private static void waysOfOne() {
    ThrowFlow x = Check.withMethods(2);
    x.add(0, 6, 0, 1);
    x.add(0, 3, 0, 0);
    x.add(0, 7, 2, 0);
    x.add(1, 7, 2, 0);
    x.add(1, 7, 1, 0);
    wayIs("a CALL raises 2 by itself", x, 0, 2, 0);
    wayIs("a DIV raises 1", x, 0, 1, 1);
    wayIs("a THROW", x, 1, 2, 24);
    x.change(0, 1, 9, 0, 0);
    wayIs("1 by the CALL", x, 0, 1, 0, 25);
  }

  private static void shortestWay() {
    ThrowFlow x = Check.withMethods(4);
    x.add(0, 6, 0, 1);
    x.add(0, 6, 0, 3);
    x.add(1, 6, 0, 2);
    x.add(2, 6, 0, 3);
    x.add(3, 0, 0, 0);
    x.add(3, 7, 0, 0);
    wayIs("the shorter CALL is behind", x, 0, 0, 1, 73);
    wayIs("three", x, 1, 0, 24, 48, 73);
    x.handler(0, 1, 1, 0, 0);
    wayIs("the shorter one is caught", x, 0, 0, 0, 24, 48, 73);
  }

  private static void lesserNumbersFirst() {
    ThrowFlow x = Check.withMethods(4);
    x.add(0, 6, 0, 3);
    x.add(0, 6, 0, 1);
    x.add(1, 7, 0, 0);
    x.add(3, 7, 0, 0);
    x.add(3, 7, 0, 0);
    wayIs("the lesser instruction, though its method is greater", x, 0, 0, 0, 72);
    x.handler(3, 0, 0, 0, 0);
    wayIs("the first that is not caught", x, 0, 0, 0, 73);
    x.handler(3, 1, 1, 0, 0);
    wayIs("the other method", x, 0, 0, 1, 24);
  }

  private static void wayThroughAgain() {
    ThrowFlow x = Check.withMethods(2);
    x.add(0, 6, 0, 1);
    x.add(0, 7, 0, 0);
    x.add(0, 8, 0, 0);
    x.add(1, 7, 0, 0);
    x.handler(0, 0, 1, 0, 2);
    wayIs("behind the AGAIN the nearest that its handler catches", x, 0, 0, 2, 1);
    x.change(0, 1, 7, 1, 0);
    wayIs("behind the AGAIN a CALL", x, 0, 0, 2, 0, 24);
    wayIs("1 by the AGAIN", x, 0, 1, 2, 1);
    wayIs("2 by the AGAIN", x, 0, 2, 2, 0);
    x.add(0, 8, 1, 0);
    x.handler(0, 2, 2, 1, 3);
    wayIs("1 by both", x, 0, 1, 3, 2, 1);
  }

  /** In each method a CALL of the next one and four AGAINs in a row, the last of which comes out. */
  private static void longWay() {
    ThrowFlow x = Check.withMethods(8);
    int[] due = new int[8 * 5];
    for (int m = 0; m < 8; m++) {
      x.add(m, m < 7 ? 6 : 7, 0, m + 1);
      for (int h = 0; h < 4; h++) {
        x.add(m, 8, h, 0);
        x.handler(m, h, h, 0, h + 1);
      }
      for (int k = 0; k < 5; k++) {
        due[m * 5 + k] = m * 24 + 4 - k;
      }
    }
    wayIs("through every handler and every method", x, 0, 0, due);
    check.same("out", 5, x.out(0));
    check.same("way of 2", 5, x.way(0, 2));
    check.same("way out of 3", 25, x.way(3, 0));
  }

  private static void wayOfNothing() {
    ThrowFlow x = Check.withMethods(1);
    wayIs("no instructions", x, 0, 0);
    x.add(0, 7, 1, 0);
    wayIs("another class", x, 0, 0);
    wayIs("another class", x, 0, 2);
    x.handler(0, 0, 0, 1, 0);
    wayIs("caught", x, 0, 1);
  }
}
