/** Promises 8 to 12 (out, raises, catches, way, step), and RAISES and WAY of the terms. */
public final class FlowTest implements Codes {
  private static final Check check = new Check();

  public static void main(String[] args) {
    throwRaisesItsClass();
    divRaises1();
    callRaises2();
    callRaisesWhatComesOut();
    againRaisesWhatItsHandlerCatches();
    againOfWhatAnAgainRaises();
    otherCodesRaiseNothing();
    unreachedInstructionsCount();
    smallestSetsOfAgains();
    smallestSetsOfCalls();

    firstAndLastAreCovered();
    firstFittingHandlerCatches();
    handlersOfParentsCatch();
    handlersCatchClassesMadeLater();
    whatNoHandlerCatchesComesOut();
    exceptionsAreThrownAtTheCall();

    outIsASum();
    outOfNoMethod();
    raisesOfNone();
    catchesOfNoHandler();
    catchesWhereItIsTheOne();

    wayEndsWithThrowDivOrCall();
    shortestWay();
    lesserNumbersFirst();
    lesserNumbersAtTheFirstDifference();
    behindACall();
    behindAnAgain();
    callAloneIsShortestFor2();
    longestWay();
    wayOfWhatCannotComeOut();
    wayOfNoMethodOrClass();
    stepOfNone();
    stepCountsTheMethod();

    textChangesAreSeen();
    check.end();
  }

  private static void wayIs(String what, ThrowFlow x, int method, int kind, int... places) {
    check.same(what + ": way", places.length, x.way(method, kind));
    for (int k = 0; k < places.length; k++) {
      check.same(what + ": step " + k, places[k], x.step(method, kind, k));
    }
    check.same(what + ": step behind", NONE, x.step(method, kind, places.length));
  }

  private static void throwRaisesItsClass() {
    check.says("instruction i of a method can raise c when it is a THROW of c");
    ThrowFlow x = Check.withMethods(1);
    for (int c = 0; c < 10; c++) {
      if (c > 2) {
        x.kind(c - 1);
      }
      x.add(0, THROW, c, 0);
    }
    for (int c = 0; c < 10; c++) {
      check.same("raises(0, " + c + ")", 1 << c, x.raises(0, c));
    }
  }

  private static void divRaises1() {
    check.says("or a DIV, and c is 1");
    ThrowFlow x = Check.withMethods(1);
    x.add(0, SET, 1, 5);
    x.add(0, DIV, 0, 1);
    check.same("also where it never divides by 0", 2, x.raises(0, 1));
    check.same("out", 2, x.out(0));
  }

  private static void callRaises2() {
    check.says("or a CALL, and c is 2");
    ThrowFlow x = Check.withMethods(2);
    for (int m = 0; m < 8; m++) {
      x.add(0, CALL, 0, m);
    }
    for (int m = 0; m < 8; m++) {
      check.same("a CALL of " + m, 4, x.raises(0, m));
    }
    check.same("out", 4, x.out(0));
    check.same("out of the called one", 0, x.out(1));
  }

  private static void callRaisesWhatComesOut() {
    check.says("or a CALL of a method, and c can come out of that");
    ThrowFlow x = Check.withMethods(8);
    for (int m = 0; m < 7; m++) {
      x.add(m, CALL, 0, m + 1);
    }
    x.add(7, THROW, 0, 0);
    x.add(7, DIV, 0, 0);
    check.same("raises of the first of seven CALLs", 7, x.raises(0, 0));
    x.handler(7, 1, 1, 1, 0);
    check.same("what is caught there does not come", 5, x.raises(0, 0));
    x.handler(3, 0, 0, 0, 0);
    check.same("what is caught on the way does not come", 4, x.raises(0, 0));
    check.same("but to there", 5, x.raises(3, 0));
  }

  private static void againRaisesWhatItsHandlerCatches() {
    check.says("or an AGAIN of a handler h, and some instruction .. can raise c and h .. catches c there");
    ThrowFlow x = Check.withMethods(2);
    x.add(0, THROW, 1, 0);
    x.add(0, THROW, 2, 0);
    for (int h = 0; h < 4; h++) {
      x.add(0, AGAIN, h, 0);
      x.add(1, AGAIN, h, 0);
    }
    for (int h = 0; h < 4; h++) {
      check.same("no handler yet", 0, x.raises(0, 2 + h));
    }
    x.handler(0, 1, 1, 1, 0);
    x.handler(0, 0, 0, 1, 0);
    x.handler(0, 0, 1, 0, 0);
    x.handler(0, 0, 1, 0, 0);
    int[] due = {0, 2, 4, 0};
    for (int h = 0; h < 4; h++) {
      check.same("AGAIN of " + h, due[h], x.raises(0, 2 + h));
      check.same("AGAIN of another method's", 0, x.raises(1, h));
    }
  }

  private static void againOfWhatAnAgainRaises() {
    check.says("or an AGAIN of a handler h, and some instruction (an AGAIN too) can raise c");
    ThrowFlow x = Check.withMethods(1);
    x.add(0, AGAIN, 0, 0);
    x.add(0, THROW, 1, 0);
    x.add(0, THROW, 2, 0);
    x.add(0, AGAIN, 1, 0);
    x.handler(0, 1, 1, 0, 0);
    x.handler(0, 0, 2, 0, 0);
    check.same("AGAIN of 0", 2, x.raises(0, 0));
    check.same("AGAIN of 1", 6, x.raises(0, 3));
    check.same("catches of 0", 2, x.catches(0, 0));
    check.same("catches of 1", 6, x.catches(0, 1));
    check.same("out", 6, x.out(0));
  }

  private static void otherCodesRaiseNothing() {
    check.says("RAISES (of the other codes nothing is said)");
    ThrowFlow x = Check.withMethods(1);
    int[] silent = {SET, ADD, SUB, JUMP, ZERO, GIVE};
    for (int code : silent) {
      x.add(0, code, 1, 2);
    }
    for (int i = 0; i < silent.length; i++) {
      check.same("raises of code " + silent[i], 0, x.raises(0, i));
    }
    check.same("out", 0, x.out(0));
  }

  private static void unreachedInstructionsCount() {
    check.says("Whether an instruction is ever come to does not matter.");
    ThrowFlow x = Check.withMethods(2);
    x.add(0, GIVE, 0, 0);
    x.add(0, THROW, 0, 0);
    x.add(0, DIV, 0, 1);
    check.same("out", 3, x.out(0));
    check.same("it gives", 4, x.run(0, 4, 1));
    x.add(1, GIVE, 0, 0);
    x.add(1, THROW, 1, 0);
    x.add(1, AGAIN, 0, 0);
    x.handler(1, 1, 1, 1, 0);
    check.same("an AGAIN of what is never caught", 2, x.out(1));
    wayIs("its way", x, 1, 1, 26, 25);
  }

  private static void smallestSetsOfAgains() {
    check.says("These are the smallest sets for which this holds. (AGAIN)");
    ThrowFlow x = Check.withMethods(1);
    x.add(0, AGAIN, 0, 0);
    x.add(0, AGAIN, 1, 0);
    x.handler(0, 0, 0, 0, 0);
    check.same("an AGAIN of the handler over it", 0, x.raises(0, 0));
    x.handler(0, 1, 1, 0, 0);
    x.change(0, 0, AGAIN, 1, 0);
    x.change(0, 1, AGAIN, 0, 0);
    check.same("two in a circle", 0, x.raises(0, 0));
    check.same("two in a circle", 0, x.raises(0, 1));
    check.same("catches", 0, x.catches(0, 0));
    x.add(0, THROW, 1, 0);
    check.same("what they do not cover", 0, x.raises(0, 0));
    x.handler(0, 2, 2, 0, 0);
    check.same("what another one catches", 0, x.raises(0, 0));
    x.change(0, 1, THROW, 1, 0);
    check.same("what the other one catches", 2, x.raises(0, 0));
  }

  private static void smallestSetsOfCalls() {
    check.says("These are the smallest sets for which this holds. (CALL)");
    ThrowFlow x = Check.withMethods(3);
    x.add(0, CALL, 0, 1);
    x.add(1, CALL, 0, 2);
    x.add(2, CALL, 0, 0);
    for (int m = 0; m < 3; m++) {
      check.same("2 alone comes round", 4, x.out(m));
    }
    x.add(1, THROW, 1, 0);
    for (int m = 0; m < 3; m++) {
      check.same("1 comes round to each", 6, x.out(m));
    }
    wayIs("from 2 round to 1", x, 2, 1, 48, 0, 25);
    ThrowFlow y = Check.withMethods(1);
    y.add(0, CALL, 0, 0);
    y.handler(0, 0, 0, 2, 0);
    check.same("a CALL of itself", 4, y.raises(0, 0));
    check.same("out", 0, y.out(0));
  }

  private static void firstAndLastAreCovered() {
    check.says("FIRST and LAST (instructions that it covers, both included)");
    for (int first = 0; first < 24; first += 23) {
      for (int last = first; last < 24; last += 1 + last % 3) {
        covered(first, last);
      }
    }
    covered(3, 3);
    covered(3, 7);
    covered(22, 23);
  }

  private static void covered(int first, int last) {
    ThrowFlow x = Check.withMethods(1);
    x.handler(0, first, last, 0, 0);
    for (int i = 0; i < 24; i++) {
      x.add(0, THROW, 1, 0);
      boolean under = first <= i && i <= last;
      check.same("covered " + i + " of " + first + " .. " + last, under ? 2 : 0, x.catches(0, 0));
      check.same("and comes not out", under ? 0 : 2, x.out(0));
      x.change(0, i, SET, 0, 0);
    }
  }

  private static void firstFittingHandlerCatches() {
    check.says("CAUGHT by the first handler of the method that covers the instruction and whose class c is one of");
    ThrowFlow x = Check.withMethods(1);
    x.add(0, THROW, 1, 0);
    x.add(0, THROW, 1, 0);
    x.add(0, THROW, 1, 0);
    x.add(0, THROW, 2, 0);
    x.handler(0, 1, 2, 2, 0);
    x.handler(0, 1, 2, 1, 0);
    x.handler(0, 2, 3, 0, 0);
    check.same("the first is of another class", 0, x.catches(0, 0));
    check.same("the second catches", 2, x.catches(0, 1));
    check.same("the third catches what the second does not cover", 4, x.catches(0, 2));
    check.same("what is not covered comes out", 2, x.out(0));
    x.handler(0, 0, 0, 1, 0);
    check.same("the fourth catches", 2, x.catches(0, 3));
    check.same("all is caught", 0, x.out(0));
  }

  private static void handlersOfParentsCatch() {
    check.says("whose class c is one of");
    ThrowFlow x = Check.withMethods(1);
    x.kind(1);
    x.kind(3);
    x.add(0, THROW, 4, 0);
    x.add(0, THROW, 1, 0);
    x.add(0, THROW, 0, 0);
    x.handler(0, 0, 2, 3, 0);
    check.same("4 is one of 3, 1 and 0 are not", 16, x.catches(0, 0));
    check.same("out", 3, x.out(0));
    x.handler(0, 0, 23, 1, 0);
    check.same("1 is one of 1, 0 is not", 2, x.catches(0, 1));
    check.same("out", 1, x.out(0));
    x.handler(0, 2, 2, 0, 0);
    check.same("0 is one of 0", 1, x.catches(0, 2));
    check.same("out", 0, x.out(0));
  }

  private static void handlersCatchClassesMadeLater() {
    check.says("whose class c is one of (c made behind the handler)");
    ThrowFlow x = Check.withMethods(1);
    x.handler(0, 0, 0, 1, 1);
    x.add(0, THROW, 2, 0);
    check.same("out", 4, x.out(0));
    x.kind(2);
    x.kind(1);
    x.change(0, 0, THROW, 3, 0);
    check.same("3 is not one of 1", 8, x.out(0));
    x.change(0, 0, THROW, 4, 0);
    check.same("4 is one of 1", 0, x.out(0));
    check.same("catches", 16, x.catches(0, 0));
    check.same("run", 6, x.run(0, 6, 1));
  }

  private static void whatNoHandlerCatchesComesOut() {
    check.says("A class CAN COME OUT of a method when some instruction of it can raise it and no handler catches it there.");
    ThrowFlow x = Check.withMethods(1);
    x.add(0, THROW, 1, 0);
    x.add(0, DIV, 0, 0);
    x.handler(0, 0, 0, 1, 0);
    check.same("caught at one, not at the other", 2, x.out(0));
    check.same("catches", 2, x.catches(0, 0));
    x.handler(0, 1, 1, 2, 0);
    check.same("covered by one of another class", 2, x.out(0));
    x.handler(0, 1, 1, 1, 0);
    check.same("caught at both", 0, x.out(0));
  }

  private static void exceptionsAreThrownAtTheCall() {
    check.says("it comes out of the method, and is thrown at the CALL from which the method was called");
    ThrowFlow x = Check.withMethods(2);
    x.add(0, SET, 1, 0);
    x.add(0, CALL, 0, 1);
    x.add(1, THROW, 1, 0);
    x.handler(0, 0, 0, 0, 0);
    check.same("the number in the called method is not the one", 6, x.out(0));
    x.handler(0, 1, 1, 1, 0);
    check.same("the number of the CALL is", 4, x.out(0));
    check.same("catches", 2, x.catches(0, 1));
    check.same("the called method's handlers are its own", 2, x.out(1));
  }

  private static void outIsASum() {
    check.says("The classes that can come out of a method: the sum of 2^c");
    ThrowFlow x = Check.withMethods(1);
    check.same("none", 0, x.out(0));
    int sum = 0;
    for (int c = 0; c < 10; c++) {
      if (c > 2) {
        x.kind(0);
      }
      x.add(0, THROW, c, 0);
      x.add(0, THROW, c, 0);
      sum += 1 << c;
      check.same("up to " + c, sum, x.out(0));
    }
    x.handler(0, 0, 23, 0, 0);
    check.same("all are caught", 0, x.out(0));
    check.same("by the first", 1023, x.catches(0, 0));
    x.add(0, AGAIN, 0, 0);
    check.same("and can be raised again", 1023, x.raises(0, 20));
  }

  private static final int[] NEVER = {-1, 8, 24, 25, MAX, MIN};

  private static void outOfNoMethod() {
    check.says("out: 0 when there is no such method");
    for (int count = 1; count <= 8; count++) {
      ThrowFlow x = Check.withMethods(count);
      x.add(count - 1, THROW, 0, 0);
      check.same("out of the greatest", 1, x.out(count - 1));
      check.same("out of one above", 0, x.out(count));
      for (int m : NEVER) {
        check.same("out(" + m + ")", 0, x.out(m));
      }
    }
  }

  private static void raisesOfNone() {
    check.says("raises: 0 when there is none");
    ThrowFlow x = Check.withMethods(2);
    for (int i = 0; i < 24; i++) {
      check.same("one above", 0, x.raises(0, i));
      x.add(0, THROW, 0, 0);
      check.same("the greatest", 1, x.raises(0, i));
      check.same("of the other method", 0, x.raises(1, i));
    }
    check.same("raises(2, 0)", 0, x.raises(2, 0));
    for (int n : NEVER) {
      check.same("raises(" + n + ", 0)", 0, x.raises(n, 0));
      check.same("raises(1, " + n + ")", 0, x.raises(1, n));
    }
    check.same("raises(0, -1)", 0, x.raises(0, -1));
    check.same("raises(0, 24)", 0, x.raises(0, 24));
    check.same("raises(0, 25)", 0, x.raises(0, 25));
    check.same("raises(0, MAX)", 0, x.raises(0, MAX));
    check.same("raises(0, MIN)", 0, x.raises(0, MIN));
    check.same("raises(-1, 24)", 0, x.raises(-1, 24));
    check.same("raises(1, -24)", 0, x.raises(1, -24));
  }

  private static void catchesOfNoHandler() {
    check.says("catches: 0 when there is no such handler");
    ThrowFlow x = Check.withMethods(3);
    for (int i = 0; i < 4; i++) {
      x.add(0, THROW, 0, 0);
    }
    x.add(1, THROW, 0, 0);
    x.add(2, THROW, 0, 0);
    for (int h = 0; h < 4; h++) {
      check.same("one above", 0, x.catches(0, h));
      x.handler(0, h, h, 0, 0);
      check.same("the greatest", 1, x.catches(0, h));
      check.same("of another method", 0, x.catches(1, h));
    }
    for (int h : new int[] {-1, 4, 5, MAX, MIN}) {
      check.same("catches(0, " + h + ")", 0, x.catches(0, h));
      check.same("catches(1, " + h + ")", 0, x.catches(1, h));
    }
    for (int m : NEVER) {
      check.same("catches(" + m + ", 0)", 0, x.catches(m, 0));
    }
    check.same("catches(3, 0)", 0, x.catches(3, 0));
  }

  private static void catchesWhereItIsTheOne() {
    check.says("that some instruction can raise at which it is the one that catches them");
    ThrowFlow x = Check.withMethods(1);
    x.add(0, THROW, 1, 0);
    x.handler(0, 0, 0, 1, 0);
    x.handler(0, 0, 23, 0, 0);
    check.same("the first", 2, x.catches(0, 0));
    check.same("the second is not the one", 0, x.catches(0, 1));
    x.add(0, THROW, 1, 0);
    check.same("the second is the one at 1", 2, x.catches(0, 1));
    x.handler(0, 5, 9, 0, 0);
    check.same("one over no instructions", 0, x.catches(0, 2));
  }

  private static void wayEndsWithThrowDivOrCall() {
    check.says("a THROW, a DIV for 1, or a CALL for 2 may end it");
    ThrowFlow x = Check.withMethods(3);
    x.add(0, CALL, 0, 2);
    x.add(1, DIV, 0, 0);
    x.add(2, THROW, 0, 0);
    wayIs("a CALL", x, 0, 2, 0);
    wayIs("a DIV", x, 1, 1, 24);
    wayIs("a THROW", x, 2, 0, 48);
    x.change(2, 0, THROW, 1, 0);
    wayIs("a CALL does not end it for 1", x, 0, 1, 0, 48);
    x.change(2, 0, DIV, 0, 0);
    wayIs("but the DIV behind it", x, 0, 1, 0, 48);
  }

  private static void shortestWay() {
    check.says("of all ways from its instructions at which c is raised and not caught, the shortest one");
    ThrowFlow x = Check.withMethods(4);
    x.add(0, CALL, 0, 1);
    x.add(0, CALL, 0, 3);
    x.add(1, CALL, 0, 2);
    x.add(2, CALL, 0, 3);
    x.add(3, SET, 0, 0);
    x.add(3, THROW, 0, 0);
    wayIs("the shorter CALL is behind", x, 0, 0, 1, 73);
    wayIs("three", x, 1, 0, 24, 48, 73);
    x.handler(0, 1, 1, 0, 0);
    wayIs("the shorter one is caught", x, 0, 0, 0, 24, 48, 73);
    x.add(0, SET, 0, 0);
    x.add(0, THROW, 0, 0);
    wayIs("one alone is shortest", x, 0, 0, 3);
  }

  private static void lesserNumbersFirst() {
    check.says("of several the one with the lesser instruction number");
    ThrowFlow x = Check.withMethods(4);
    x.add(0, CALL, 0, 3);
    x.add(0, CALL, 0, 1);
    x.add(1, THROW, 0, 0);
    x.add(3, THROW, 0, 0);
    x.add(3, THROW, 0, 0);
    wayIs("the lesser instruction, though its method is greater", x, 0, 0, 0, 72);
    x.handler(3, 0, 0, 0, 0);
    wayIs("the first that is not caught", x, 0, 0, 0, 73);
    x.handler(3, 1, 1, 0, 0);
    wayIs("the other method", x, 0, 0, 1, 24);
  }

  private static void lesserNumbersAtTheFirstDifference() {
    check.says("at the first place where they differ");
    ThrowFlow x = Check.withMethods(3);
    x.add(0, SET, 0, 0);
    x.add(0, CALL, 0, 1);
    x.add(0, CALL, 0, 2);
    for (int i = 0; i < 5; i++) {
      x.add(1, SET, 0, 0);
    }
    x.add(1, THROW, 0, 0);
    x.add(1, THROW, 0, 0);
    x.add(2, THROW, 0, 0);
    wayIs("the first place counts before the second", x, 0, 0, 1, 29);
    x.change(0, 2, THROW, 1, 0);
    x.add(0, CALL, 0, 2);
    x.add(0, AGAIN, 0, 0);
    x.handler(0, 1, 3, 0, 0);
    wayIs("behind an AGAIN likewise", x, 0, 0, 4, 1, 29);
  }

  private static void behindACall() {
    check.says("behind a CALL comes an instruction of the called method that can raise c with no handler catching it there");
    ThrowFlow x = Check.withMethods(2);
    x.add(0, CALL, 0, 1);
    x.add(1, THROW, 1, 0);
    x.add(1, SET, 0, 0);
    x.add(1, DIV, 0, 0);
    x.add(1, AGAIN, 0, 0);
    wayIs("the first", x, 0, 1, 0, 24);
    x.handler(1, 0, 0, 1, 0);
    wayIs("the first is caught", x, 0, 1, 0, 26);
    x.handler(1, 2, 2, 0, 0);
    wayIs("the AGAIN of the first", x, 0, 1, 0, 27, 24);
  }

  private static void behindAnAgain() {
    check.says("behind an AGAIN of handler h comes one of its method that can raise c and at which h catches it");
    ThrowFlow x = Check.withMethods(2);
    x.add(0, CALL, 0, 1);
    x.add(0, THROW, 0, 0);
    x.add(0, AGAIN, 0, 0);
    x.add(1, THROW, 0, 0);
    x.handler(0, 0, 1, 0, 2);
    wayIs("the nearest, not the first", x, 0, 0, 2, 1);
    x.change(0, 1, THROW, 1, 0);
    wayIs("a CALL", x, 0, 0, 2, 0, 24);
    wayIs("1 by the AGAIN", x, 0, 1, 2, 1);
    x.add(0, AGAIN, 1, 0);
    x.handler(0, 2, 2, 1, 3);
    wayIs("1 by both AGAINs", x, 0, 1, 3, 2, 1);
    wayIs("0 by one of them", x, 0, 0, 2, 0, 24);
  }

  private static void callAloneIsShortestFor2() {
    check.says("A CALL that raises 2 by itself ends the way if that is shortest: it has the length 1.");
    ThrowFlow x = Check.withMethods(2);
    x.add(0, CALL, 0, 1);
    x.add(0, THROW, 2, 0);
    x.add(1, THROW, 2, 0);
    wayIs("the CALL before the THROW", x, 0, 2, 0);
    x.change(0, 0, SET, 0, 0);
    wayIs("the THROW", x, 0, 2, 1);
    x.add(0, CALL, 0, 7);
    wayIs("the THROW before the CALL", x, 0, 2, 1);
    x.change(0, 1, SET, 0, 0);
    wayIs("a CALL of one that is not there", x, 0, 2, 2);
    x.add(0, AGAIN, 0, 0);
    x.handler(0, 2, 2, 2, 0);
    wayIs("an AGAIN of it", x, 0, 2, 3, 2);
  }

  /** In each method a CALL of the next one and four AGAINs in a row, the last of which comes out. */
  private static void longestWay() {
    check.says("How many instructions the way of a class out of a method has (40 are the most)");
    ThrowFlow x = Check.withMethods(8);
    int[] due = new int[8 * 5];
    for (int m = 0; m < 8; m++) {
      x.add(m, m < 7 ? CALL : THROW, 0, m + 1);
      for (int h = 0; h < 4; h++) {
        x.add(m, AGAIN, h, 0);
        x.handler(m, h, h, 0, h + 1);
      }
      for (int k = 0; k < 5; k++) {
        due[m * 5 + k] = m * 24 + 4 - k;
      }
    }
    wayIs("through every handler and every method", x, 0, 0, due);
    check.same("out", 5, x.out(0));
    check.same("way of 2", 5, x.way(0, 2));
    check.same("way out of 3", 25, x.way(3, 0));
    check.same("way out of 7", 5, x.way(7, 0));
    x.add(7, CALL, 0, 0);
    check.same("a CALL before all of it raises it too", 5, x.raises(7, 5));
    check.same("out of 7 it comes as before", 5, x.way(7, 0));
  }

  private static void wayOfWhatCannotComeOut() {
    check.says("way: 0 when it can't come out");
    ThrowFlow x = Check.withMethods(1);
    wayIs("no instructions", x, 0, 0);
    x.add(0, THROW, 1, 0);
    wayIs("it can", x, 0, 1, 0);
    wayIs("its parent can't", x, 0, 0);
    wayIs("another class can't", x, 0, 2);
    x.handler(0, 0, 0, 1, 0);
    wayIs("caught", x, 0, 1);
    x.kind(1);
    wayIs("a class of it", x, 0, 3);
  }

  private static void wayOfNoMethodOrClass() {
    check.says("way: 0 when it can't come out (no such method, no such class)");
    ThrowFlow x = Check.withMethods(2);
    x.add(0, THROW, 0, 0);
    x.add(1, THROW, 0, 0);
    for (int m : new int[] {-1, 2, 7, 8, MAX, MIN}) {
      check.same("way(" + m + ", 0)", 0, x.way(m, 0));
      check.same("way(" + m + ", -1)", 0, x.way(m, -1));
      check.same("step(" + m + ", 0, 0)", NONE, x.step(m, 0, 0));
    }
    for (int c : new int[] {-1, 3, 9, 10, 31, 32, 64, MAX, MIN}) {
      check.same("way(0, " + c + ")", 0, x.way(0, c));
      check.same("way(1, " + c + ")", 0, x.way(1, c));
      check.same("step(0, " + c + ", 0)", NONE, x.step(0, c, 0));
      check.same("step(1, " + c + ", 0)", NONE, x.step(1, c, 0));
    }
    for (int c = 3; c < 10; c++) {
      x.kind(0);
    }
    x.change(0, 0, THROW, 9, 0);
    wayIs("the greatest class", x, 0, 9, 0);
    check.same("way(0, 10)", 0, x.way(0, 10));
  }

  private static void stepOfNone() {
    check.says("step: NONE when there is none");
    ThrowFlow x = Check.withMethods(2);
    check.same("no way", NONE, x.step(0, 1, 0));
    x.add(0, CALL, 0, 1);
    x.add(1, DIV, 0, 0);
    check.same("step 0", 0, x.step(0, 1, 0));
    check.same("step 1", 24, x.step(0, 1, 1));
    for (int k : new int[] {-1, 2, 3, 40, 41, MAX, MIN}) {
      check.same("step " + k + " of two", NONE, x.step(0, 1, k));
    }
    check.same("step 1 of one", NONE, x.step(0, 2, 1));
    check.same("step 0 of none", NONE, x.step(0, 0, 0));
    x.handler(0, 0, 0, 1, 0);
    check.same("step 0 of what is caught", NONE, x.step(0, 1, 0));
  }

  private static void stepCountsTheMethod() {
    check.says("24 times its method, and its number");
    ThrowFlow x = Check.withMethods(8);
    for (int i = 0; i < 23; i++) {
      x.add(7, SET, 0, 0);
    }
    x.add(7, THROW, 0, 0);
    wayIs("the last instruction of the last method", x, 7, 0, 191);
    x.add(0, CALL, 0, 7);
    wayIs("and by a CALL", x, 0, 0, 0, 191);
  }

  private static void textChangesAreSeen() {
    check.says("by what the text of all methods says alone (as it is when it is asked)");
    ThrowFlow x = Check.withMethods(2);
    x.add(0, CALL, 0, 1);
    check.same("at first", 4, x.out(0));
    x.add(1, THROW, 1, 0);
    check.same("after add", 6, x.out(0));
    x.change(1, 0, THROW, 0, 0);
    check.same("after change", 5, x.out(0));
    check.same("its way", 2, x.way(0, 0));
    x.handler(1, 0, 0, 0, 0);
    check.same("after handler", 4, x.out(0));
    check.same("its way", 0, x.way(0, 0));
    check.same("raises", 1, x.raises(1, 0));
    x.change(1, 0, SET, 0, 0);
    check.same("raises after change", 0, x.raises(1, 0));
    x.change(1, 0, THROW, 2, 0);
    check.same("catches after change", 4, x.catches(1, 0));
    x.change(1, 0, THROW, 1, 0);
    x.handler(0, 0, 0, 0, 0);
    check.same("step after handler", NONE, x.step(0, 2, 0));
  }
}
