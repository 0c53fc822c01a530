/** Promises 13 to 15 (run, spent, escaped), the codes and TO RUN of the terms; a sentence each. */
public final class RunTest implements Codes {
  private static final Check check = new Check();

  public static void main(String[] args) {
    setMakesIt();
    addWraps();
    subWraps();
    divGoesTowards0();
    divWraps();
    divBy0Throws1();
    jumpGoesTo();
    zeroGoesToIf0();
    callGivesFor();
    throwThrows();
    againThrowsWhatWasCaughtLast();
    againStaysCaught();
    againIsOfItsOwnHandler();
    againIsSinceTheMethodWasCalled();
    againIsOfItsOwnCall();
    againOfNothing();
    giveGives();
    endGivesRegister0();

    coveredInstructionsAreCaught();
    firstHandlerCatches();
    targetIsNext();
    caughtAtTheCall();

    registersAnew();
    eachInstructionCosts1();
    throwingCosts1();
    endCostsNothing();
    endIsBeforeTheFuelEnds();
    elevenUnderWayCall();
    twelveUnderWayThrow();
    twelveThrowForMethodsNotThere();
    underWayNoMore();

    runOfNoMethod();
    fuelIs0To3000();
    runNamesTheFirst();
    fuelAtItsEnd();
    exceptionComesOut();
    bothTellOfTheRun();
    spentOfTheLatest();
    escapedOfTheLatest();
    refusedRunsAreNone();
    check.end();
  }

  private static ThrowFlow one() {
    return Check.withMethods(1);
  }

  private static void tells(String what, ThrowFlow x, int spent, int escaped) {
    check.same(what + ": spent()", spent, x.spent());
    check.same(what + ": escaped()", escaped, x.escaped());
  }

  private static void ends(String what, ThrowFlow x, int start, int fuel) {
    check.fails(what, IllegalStateException.class, () -> x.run(0, start, fuel));
    tells(what, x, fuel, NONE);
  }

  /** Method 0 gives this for just so much fuel, and no less. */
  private static void gives(String what, ThrowFlow x, int start, int value, int fuel) {
    for (int enough : new int[] {3000, fuel}) {
      String with = what + ", with " + enough;
      check.gives(with, value, () -> x.run(0, start, enough));
      tells(with, x, fuel, NONE);
    }
    if (fuel > 0) {
      ends(what + ", with one less", x, start, fuel - 1);
    }
  }

  /** This class comes out of method 0 for just so much fuel, and no less. */
  private static void lets(String what, ThrowFlow x, int start, int kind, int fuel) {
    for (int enough : new int[] {3000, fuel}) {
      String with = what + ", with " + enough;
      check.fails(with, UnsupportedOperationException.class, () -> x.run(0, start, enough));
      tells(with, x, fuel, kind);
    }
    ends(what + ", with one less", x, start, fuel - 1);
  }

  private static void setMakesIt() {
    check.says("SET: register a becomes b.");
    for (int register = 0; register < 4; register++) {
      for (int b : new int[] {0, 1, -1, MAX, MIN}) {
        ThrowFlow x = one();
        x.add(0, SET, register, b);
        x.add(0, GIVE, register, 0);
        gives("SET " + b, x, 9, b, 2);
        x.change(0, 1, GIVE, (register + 1) % 4, 0);
        gives("another register", x, 9, register == 3 ? 9 : 0, 2);
      }
    }
  }

  /** The content of register 0 after a code of 0 and 3. */
  private static int after(int code, int left, int right) {
    ThrowFlow x = one();
    x.add(0, SET, 3, right);
    x.add(0, code, 0, 3);
    return x.run(0, left, 2);
  }

  /** The content of register 0 after a code of 0 and 0. */
  private static int afterItself(int code, int content) {
    ThrowFlow x = one();
    x.add(0, code, 0, 0);
    return x.run(0, content, 1);
  }

  private static final int[] NUMBERS = {0, 1, -1, 2, -3, 7, -8, 1000, MAX, MAX - 1, MIN, MIN + 1};

  private static void addWraps() {
    check.says("ADD .. register a becomes a's content with that of b added .. (wrapping)");
    check.same("MAX + 1", MIN, after(ADD, MAX, 1));
    check.same("MIN + -1", MAX, after(ADD, MIN, -1));
    check.same("MIN + MIN", 0, after(ADD, MIN, MIN));
    check.same("MAX + MAX", -2, after(ADD, MAX, MAX));
    check.same("MAX + itself", -2, afterItself(ADD, MAX));
    check.same("MIN + itself", 0, afterItself(ADD, MIN));
    for (int left : NUMBERS) {
      for (int right : NUMBERS) {
        check.same(left + " + " + right, (int) ((long) left + right), after(ADD, left, right));
      }
    }
  }

  private static void subWraps() {
    check.says("SUB: register a becomes a's content with that of b .. taken off (wrapping)");
    check.same("MIN - 1", MAX, after(SUB, MIN, 1));
    check.same("MAX - -1", MIN, after(SUB, MAX, -1));
    check.same("0 - MIN", MIN, after(SUB, 0, MIN));
    check.same("-1 - MIN", MAX, after(SUB, -1, MIN));
    check.same("MIN - itself", 0, afterItself(SUB, MIN));
    for (int left : NUMBERS) {
      for (int right : NUMBERS) {
        check.same(left + " - " + right, (int) ((long) left - right), after(SUB, left, right));
      }
    }
  }

  private static void divGoesTowards0() {
    check.says("DIV: register a becomes a's content divided by that of b, towards 0");
    check.same("7 / 2", 3, after(DIV, 7, 2));
    check.same("-7 / 2", -3, after(DIV, -7, 2));
    check.same("7 / -2", -3, after(DIV, 7, -2));
    check.same("-7 / -2", 3, after(DIV, -7, -2));
    check.same("1 / 2", 0, after(DIV, 1, 2));
    check.same("-1 / 2", 0, after(DIV, -1, 2));
    check.same("0 / -5", 0, after(DIV, 0, -5));
    check.same("MAX / MIN", 0, after(DIV, MAX, MIN));
    check.same("MIN / MAX", -1, after(DIV, MIN, MAX));
    check.same("MIN / MIN", 1, after(DIV, MIN, MIN));
    check.same("MIN / itself", 1, afterItself(DIV, MIN));
  }

  private static void divWraps() {
    check.says("DIV .. (wrapping)");
    check.same("MIN / -1", MIN, after(DIV, MIN, -1));
    check.same("MIN + 1 / -1", MAX, after(DIV, MIN + 1, -1));
    check.same("MAX / -1", -MAX, after(DIV, MAX, -1));
    check.same("MIN / 1", MIN, after(DIV, MIN, 1));
  }

  private static void divBy0Throws1() {
    check.says("if that of b is 0, an exception of class 1 is thrown");
    for (int left : NUMBERS) {
      ThrowFlow x = one();
      x.add(0, DIV, 0, 3);
      lets(left + " / 0", x, left, 1, 1);
      x.handler(0, 0, 0, 1, 1);
      gives(left + " / 0, caught: register a stays", x, left, left, 1);
    }
    ThrowFlow x = one();
    x.add(0, DIV, 0, 0);
    lets("0 by itself", x, 0, 1, 1);
    gives("1 by itself", x, 1, 1, 1);
  }

  private static void jumpGoesTo() {
    check.says("JUMP: the next instruction is a.");
    ThrowFlow x = one();
    x.add(0, JUMP, 2, 0);
    x.add(0, GIVE, 1, 0);
    x.add(0, SET, 0, 5);
    gives("forward", x, 9, 5, 2);
    x.change(0, 0, JUMP, 0, 0);
    ends("to itself", x, 9, 3000);
    x.change(0, 0, JUMP, 1, 0);
    gives("to the one behind", x, 9, 0, 2);
    x.change(0, 0, JUMP, 3, 0);
    gives("to just behind the last", x, 9, 9, 1);
    x.change(0, 0, JUMP, 23, 0);
    gives("far behind the last", x, 9, 9, 1);
    for (int i = 3; i < 24; i++) {
      x.add(0, SET, 0, i);
    }
    gives("to the 24th", x, 9, 23, 2);
    x.change(0, 23, JUMP, 1, 0);
    gives("back", x, 9, 0, 3);
  }

  private static void zeroGoesToIf0() {
    check.says("ZERO: the next instruction is b, if register a has 0.");
    ThrowFlow x = one();
    x.add(0, ZERO, 0, 3);
    x.add(0, SET, 0, 10);
    x.add(0, GIVE, 0, 0);
    x.add(0, SET, 0, 20);
    gives("of 0", x, 0, 20, 2);
    for (int n : NUMBERS) {
      if (n != 0) {
        gives("of " + n, x, n, 10, 3);
      }
    }
    x.change(0, 0, ZERO, 3, 23);
    gives("to where there is none", x, 6, 6, 1);
    x.change(0, 0, ZERO, 0, 0);
    ends("to itself", x, 0, 3000);
    gives("not to itself", x, 1, 10, 3);
    ThrowFlow last = one();
    last.add(0, ZERO, 0, 0);
    gives("the last one goes on behind", last, 4, 4, 1);
  }

  private static void callGivesFor() {
    check.says("CALL: register a becomes what method b gives for a's content.");
    ThrowFlow x = Check.withMethods(8);
    x.add(0, SET, 1, 5);
    x.add(0, SET, 2, 6);
    x.add(0, CALL, 1, 7);
    x.add(0, GIVE, 1, 0);
    x.add(7, ADD, 0, 0);
    gives("register 1", x, 1000, 10, 5);
    x.change(0, 3, GIVE, 0, 0);
    gives("register 0 stays", x, 1000, 1000, 5);
    x.change(0, 3, GIVE, 2, 0);
    gives("register 2 stays", x, 1000, 6, 5);
    x.change(0, 2, CALL, 2, 7);
    gives("register 2", x, 1000, 12, 5);
    x.change(0, 2, CALL, 2, 6);
    gives("a method without instructions", x, 1000, 6, 4);
  }

  private static void throwThrows() {
    check.says("THROW: an exception of class a is thrown.");
    ThrowFlow x = one();
    x.add(0, THROW, 0, 0);
    lets("class 0", x, 5, 0, 1);
    for (int c = 3; c < 10; c++) {
      x.kind(c - 1);
    }
    x.change(0, 0, THROW, 9, 0);
    lets("class 9", x, 5, 9, 1);
  }

  private static void againThrowsWhatWasCaughtLast() {
    check.says("AGAIN: the exception that handler a of this method caught last .. is thrown");
    ThrowFlow x = one();
    x.add(0, THROW, 1, 0);
    x.add(0, THROW, 2, 0);
    x.add(0, ZERO, 1, 4);
    x.add(0, AGAIN, 0, 0);
    x.add(0, SET, 1, 1);
    x.add(0, JUMP, 1, 0);
    x.handler(0, 0, 1, 0, 2);
    lets("1 was caught, then 2", x, 0, 2, 7);
    x.kind(1);
    x.change(0, 1, THROW, 3, 0);
    lets("its very class, not the handler's", x, 0, 3, 7);
  }

  private static void againStaysCaught() {
    check.says("AGAIN: the exception that handler a of this method caught last (also a second time)");
    ThrowFlow x = one();
    x.add(0, THROW, 1, 0);
    x.add(0, AGAIN, 0, 0);
    x.add(0, AGAIN, 0, 0);
    x.add(0, AGAIN, 0, 0);
    x.handler(0, 0, 0, 0, 1);
    x.handler(0, 1, 1, 0, 2);
    x.handler(0, 2, 2, 0, 3);
    lets("three times", x, 0, 1, 4);
    x.change(0, 3, SET, 0, 7);
    gives("twice", x, 0, 7, 4);
  }

  private static void againIsOfItsOwnHandler() {
    check.says("AGAIN: the exception that handler a of this method caught (and no other handler)");
    ThrowFlow x = one();
    x.add(0, THROW, 1, 0);
    x.add(0, THROW, 2, 0);
    x.add(0, AGAIN, 0, 0);
    x.handler(0, 0, 0, 0, 1);
    x.handler(0, 1, 1, 0, 2);
    lets("the first handler's", x, 0, 1, 3);
    x.change(0, 2, AGAIN, 1, 0);
    lets("the second handler's", x, 0, 2, 3);
    x.handler(0, 2, 2, 2, 3);
    gives("caught by a third", x, 6, 6, 3);
    x.add(0, AGAIN, 2, 0);
    lets("which throws it again", x, 6, 2, 4);
    x.change(0, 3, AGAIN, 3, 0);
    gives("a fourth one caught nothing", x, 6, 6, 4);
  }

  /** Throws these classes one after another, each at its own instruction and to its own handler. */
  private static void catchFour(ThrowFlow x, int method, int first, int... kinds) {
    for (int h = 0; h < 4; h++) {
      x.add(method, THROW, kinds[h], 0);
      x.handler(method, first + h, first + h, 0, first + h + 1);
    }
  }

  private static void againIsSinceTheMethodWasCalled() {
    check.says("since the method was called");
    ThrowFlow x = Check.withMethods(2);
    x.add(0, CALL, 0, 1);
    x.add(0, SET, 0, 0);
    x.add(0, CALL, 0, 1);
    x.add(1, ZERO, 0, 6);
    catchFour(x, 1, 1, 1, 1, 2, 2);
    x.add(1, GIVE, 2, 0);
    for (int h = 0; h < 4; h++) {
      x.add(1, AGAIN, h, 0);
    }
    x.add(1, SET, 0, 4);
    gives("no call of the method has any", x, 0, 4, 15);
    gives("a later call of the method has none", x, 1, 4, 15);
    ThrowFlow y = one();
    y.add(0, ZERO, 0, 4);
    y.add(0, THROW, 1, 0);
    y.add(0, SET, 0, 0);
    y.add(0, CALL, 0, 0);
    y.add(0, AGAIN, 0, 0);
    y.handler(0, 1, 1, 1, 2);
    lets("an inner call has none, the outer one has it still", y, 1, 1, 7);
    gives("a later run", y, 0, 0, 2);
  }

  private static void againIsOfItsOwnCall() {
    check.says("AGAIN: the exception that handler a of this method caught (and no other method's)");
    for (int h = 0; h < 4; h++) {
      ThrowFlow x = Check.withMethods(2);
      x.kind(0);
      catchFour(x, 0, 0, 0, 1, 2, 3);
      catchFour(x, 1, 0, 3, 2, 1, 0);
      x.add(0, CALL, 0, 1);
      x.add(0, AGAIN, h, 0);
      lets("the outer one's, behind an inner one", x, 9, h, 10);
    }
    for (int depth = 0; depth < 12; depth++) {
      for (int h = 0; h < 4; h++) {
        ThrowFlow x = one();
        x.kind(0);
        catchFour(x, 0, 0, 0, 1, 2, 3);
        x.add(0, ZERO, 0, 8);
        x.add(0, SET, 1, 1);
        x.add(0, SUB, 0, 1);
        x.add(0, CALL, 0, 0);
        x.add(0, AGAIN, h, 0);
        lets("the innermost one's", x, depth, h, 8 * depth + 6);
      }
    }
  }

  private static void againOfNothing() {
    check.says("if there was none, nothing happens");
    ThrowFlow x = one();
    for (int h = 0; h < 4; h++) {
      x.add(0, AGAIN, h, 0);
    }
    gives("no handlers", x, 6, 6, 4);
    x.handler(0, 0, 23, 0, 23);
    gives("a handler that caught nothing", x, 6, 6, 4);
    x.add(0, THROW, 1, 0);
    gives("that catches behind them", x, 6, 6, 5);
  }

  private static void giveGives() {
    check.says("GIVE: the method gives a's content.");
    ThrowFlow x = one();
    for (int register = 1; register < 4; register++) {
      x.add(0, SET, register, 10 * register);
    }
    x.add(0, GIVE, 0, 0);
    x.add(0, THROW, 0, 0);
    for (int register = 0; register < 4; register++) {
      x.change(0, 3, GIVE, register, 0);
      gives("register " + register, x, MIN, register == 0 ? MIN : 10 * register, 4);
    }
  }

  private static void endGivesRegister0() {
    check.says("where there is no instruction (any more) the method gives the content of register 0");
    ThrowFlow x = Check.withMethods(3);
    gives("none at all", x, MAX, MAX, 0);
    x.add(0, SET, 1, 7);
    gives("behind the only one", x, MIN, MIN, 1);
    x.change(0, 0, CALL, 0, 1);
    x.add(1, CALL, 0, 2);
    gives("two ends at once", x, 13, 13, 2);
    x.add(2, SET, 0, 14);
    gives("three ends at once", x, 13, 14, 3);
    for (int i = 1; i < 24; i++) {
      x.add(0, SET, 0, i);
    }
    gives("behind the 24th", x, 13, 23, 26);
  }

  private static void coveredInstructionsAreCaught() {
    check.says("FIRST and LAST (instructions that it covers, both included)");
    for (int i = 0; i < 24; i++) {
      ThrowFlow x = one();
      for (int n = 0; n < i; n++) {
        x.add(0, SET, 1, n);
      }
      x.add(0, THROW, 1, 0);
      x.handler(0, 4, 8, 0, 23);
      if (i >= 4 && i <= 8) {
        gives("thrown at " + i, x, 5, 5, i + 1);
      } else {
        lets("thrown at " + i, x, 5, 1, i + 1);
      }
    }
  }

  private static void firstHandlerCatches() {
    check.says("CAUGHT by the first handler of the method that covers the instruction and whose class c is one of");
    ThrowFlow x = one();
    x.kind(1);
    x.add(0, THROW, 3, 0);
    x.add(0, GIVE, 1, 0);
    x.add(0, GIVE, 0, 0);
    x.handler(0, 1, 23, 0, 1);
    lets("one that does not cover it", x, 5, 3, 1);
    x.handler(0, 0, 0, 2, 1);
    lets("one of another class", x, 5, 3, 1);
    x.handler(0, 0, 0, 1, 2);
    gives("one of the parent's", x, 5, 5, 2);
    x.handler(0, 0, 0, 3, 1);
    gives("the first before the nearer one", x, 5, 5, 2);
  }

  private static void targetIsNext() {
    check.says("the next instruction is its target then");
    for (int target = 0; target < 24; target++) {
      ThrowFlow x = one();
      x.add(0, ZERO, 1, 2);
      x.add(0, GIVE, 1, 0);
      x.add(0, SET, 1, 1);
      x.add(0, THROW, 2, 0);
      for (int i = 4; i < 23; i++) {
        x.add(0, SET, 0, i);
      }
      x.handler(0, 3, 3, 2, target);
      if (target == 0) {
        gives("to 0", x, 5, 1, 5);
      } else if (target == 1) {
        gives("to 1", x, 5, 1, 4);
      } else if (target < 4) {
        ends("round and round", x, 5, 3000);
      } else if (target < 23) {
        gives("to " + target, x, 5, 22, 3 + 23 - target);
      } else {
        gives("to where there is none", x, 5, 5, 3);
      }
    }
  }

  private static void caughtAtTheCall() {
    check.says("If there is none, it comes out of the method, and is thrown at the CALL from which the method was called.");
    ThrowFlow x = Check.withMethods(3);
    x.add(0, SET, 1, 8);
    x.add(0, SET, 2, 9);
    x.add(0, CALL, 1, 1);
    x.add(0, GIVE, 0, 0);
    x.add(0, GIVE, 1, 0);
    x.add(1, SET, 0, 70);
    x.add(1, CALL, 0, 2);
    x.add(2, THROW, 1, 0);
    lets("through both", x, 5, 1, 6);
    x.handler(0, 0, 1, 0, 3);
    lets("not where the inner ones stand", x, 5, 1, 6);
    x.handler(0, 2, 2, 1, 4);
    gives("at the outer CALL: its register stays", x, 5, 8, 7);
    x.handler(1, 1, 1, 1, 2);
    gives("at the inner CALL: the outer one gets what it gives", x, 5, 5, 7);
    x.change(0, 3, GIVE, 1, 0);
    gives("namely its register 0", x, 5, 70, 7);
    x.handler(2, 0, 0, 1, 1);
    gives("where it is thrown", x, 5, 70, 7);
  }

  private static void registersAnew() {
    check.says("register 0 is x, the others are 0, at each call anew");
    int[] due = {-9, 0, 0, 0};
    for (int register = 0; register < 4; register++) {
      ThrowFlow x = Check.withMethods(2);
      for (int r = 0; r < 4; r++) {
        x.add(0, SET, r, 40 + r);
      }
      check.same("a run that sets all", 40, x.run(0, 1, 4));
      x.add(1, GIVE, register, 0);
      check.same("register " + register + " of a later run", due[register], x.run(1, -9, 1));
      x.change(0, 0, SET, 0, -9);
      x.add(0, CALL, 0, 1);
      x.add(0, CALL, 3, 1);
      gives("register " + register + " of a CALL", x, 1, due[register], 8);
    }
    ThrowFlow y = one();
    y.add(0, ZERO, 0, 4);
    y.add(0, SET, 1, 1);
    y.add(0, SUB, 0, 1);
    y.add(0, CALL, 0, 0);
    y.add(0, GIVE, 1, 0);
    gives("registers of a CALL of itself", y, 1, 1, 7);
  }

  private static void eachInstructionCosts1() {
    check.says("Each instruction costs 1 of the fuel when it is done");
    ThrowFlow x = Check.withMethods(2);
    int[] codes = {SET, ADD, SUB, JUMP, ZERO, CALL, AGAIN, GIVE};
    for (int code : codes) {
      x.add(0, code, code == JUMP ? 4 : 0, code == ZERO ? 5 : code == CALL ? 1 : 0);
    }
    gives("one of each", x, 3, 0, 8);
    x.add(1, DIV, 0, 2);
    x.add(1, SET, 0, 1);
    x.handler(1, 0, 0, 1, 1);
    gives("and those of a method called", x, 3, 1, 10);
  }

  private static void throwingCosts1() {
    check.says("(also one that throws)");
    ThrowFlow x = one();
    x.add(0, THROW, 2, 0);
    lets("THROW", x, 0, 2, 1);
    x.handler(0, 0, 0, 2, 1);
    gives("THROW, caught", x, 0, 0, 1);
    x.add(0, AGAIN, 0, 0);
    lets("AGAIN", x, 0, 2, 2);
    x.change(0, 1, DIV, 0, 1);
    lets("DIV", x, 0, 1, 2);
    x.change(0, 1, THROW, 0, 0);
    x.handler(0, 1, 1, 0, 1);
    ends("again and again", x, 0, 3000);
  }

  private static void endCostsNothing() {
    check.says("Each instruction costs 1 of the fuel (and what is no instruction costs none)");
    ThrowFlow x = Check.withMethods(2);
    check.same("no instruction, no fuel", 31, x.run(0, 31, 0));
    tells("no instruction, no fuel", x, 0, NONE);
    x.add(0, CALL, 0, 1);
    check.same("one CALL of one without instructions", 31, x.run(0, 31, 1));
    tells("one CALL of one without instructions", x, 1, NONE);
    x.change(0, 0, THROW, 1, 0);
    x.handler(0, 0, 0, 0, 1);
    check.same("a target behind the last", 31, x.run(0, 31, 1));
    tells("a target behind the last", x, 1, NONE);
    check.same("no instruction, no fuel, behind another run", 32, x.run(1, 32, 0));
    tells("no instruction, no fuel, behind another run", x, 0, NONE);
  }

  private static void endIsBeforeTheFuelEnds() {
    check.says("the fuel is at its end before it gives (where an instruction is left, in a caller too)");
    ThrowFlow x = Check.withMethods(3);
    x.add(0, CALL, 0, 1);
    x.add(1, CALL, 0, 2);
    x.add(2, SET, 0, 6);
    gives("no caller has one left", x, 5, 6, 3);
    x.add(0, GIVE, 0, 0);
    gives("the outermost has one left", x, 5, 6, 4);
    x.add(1, GIVE, 3, 0);
    gives("both have one left", x, 5, 0, 5);
    x.change(0, 1, JUMP, 1, 0);
    for (int fuel = 0; fuel < 10; fuel++) {
      ends("the outermost never comes to its end", x, 5, fuel);
    }
  }

  /** Calls itself x times, one after another from the inside out; instruction 4 is the innermost's. */
  private static ThrowFlow nest() {
    ThrowFlow x = one();
    x.add(0, ZERO, 0, 4);
    x.add(0, SET, 1, 1);
    x.add(0, SUB, 0, 1);
    x.add(0, CALL, 0, 0);
    return x;
  }

  private static void elevenUnderWayCall() {
    check.says("When there are 12 methods under way (and not before)");
    ThrowFlow x = nest();
    gives("a tenth CALL", x, 10, 0, 41);
    gives("an eleventh CALL: twelve methods", x, 11, 0, 45);
    x.add(0, CALL, 0, 7);
    gives("eleven: one that is not there gives 0", x, 10, 0, 52);
  }

  private static void twelveUnderWayThrow() {
    check.says("When there are 12 methods under way any CALL .. throws an exception of class 2 in place of calling.");
    ThrowFlow x = nest();
    lets("a twelfth CALL", x, 12, 2, 48);
    lets("more would be wanted", x, MAX, 2, 48);
    x.handler(0, 3, 3, 1, 4);
    lets("no handler for 2", x, 12, 2, 48);
    x.handler(0, 3, 3, 2, 4);
    gives("the twelfth catches it, and gives its register 0", x, 15, 3, 48);
    ThrowFlow y = one();
    y.add(0, CALL, 0, 0);
    lets("a CALL of itself alone", y, 1, 2, 12);
  }

  private static void twelveThrowForMethodsNotThere() {
    check.says("any CALL (also of a method that is not there)");
    for (int absent = 1; absent < 8; absent++) {
      ThrowFlow x = nest();
      x.add(0, CALL, 0, absent);
      lets("a CALL of " + absent, x, 11, 2, 46);
      for (int m = 1; m <= absent; m++) {
        x.method();
      }
      lets("a CALL of " + absent + " when it is made", x, 11, 2, 46);
    }
  }

  private static void underWayNoMore() {
    check.says("methods under way (those that gave or were thrown out of are so no more)");
    ThrowFlow x = Check.withMethods(2);
    for (int i = 0; i < 24; i++) {
      x.add(0, CALL, 0, 1);
    }
    gives("24 one after another", x, 5, 5, 24);
    x.add(1, THROW, 1, 0);
    for (int i = 0; i < 24; i++) {
      x.change(0, i, i % 2 == 0 ? CALL : SET, 3, 1);
    }
    for (int h = 0; h < 4; h++) {
      x.handler(0, 2 * h, 2 * h, 1, 2 * h + 2);
    }
    x.change(0, 8, GIVE, 0, 0);
    gives("four thrown out of", x, 5, 5, 9);
    ThrowFlow y = nest();
    y.method();
    y.add(1, CALL, 0, 0);
    y.add(1, SET, 0, 10);
    y.add(1, CALL, 0, 0);
    y.handler(1, 0, 0, 2, 1);
    check.same("eleven thrown out of, then as many anew", 0, y.run(1, 11, 3000));
    tells("eleven thrown out of, then as many anew", y, 1 + 44 + 1 + 1 + 41, NONE);
    ThrowFlow z = one();
    z.add(0, CALL, 0, 0);
    z.handler(0, 0, 0, 2, 23);
    gives("caught by the twelfth", z, 5, 5, 12);
  }

  private static void runOfNoMethod() {
    check.says("run: IndexOutOfBoundsException: there is no such method");
    ThrowFlow x = new ThrowFlow();
    for (int count = 0; count < 8; count++) {
      int above = count;
      check.fails("one above", IndexOutOfBoundsException.class, () -> x.run(above, 0, 10));
      for (int m : new int[] {-1, 8, 9, MAX, MIN}) {
        check.fails("method " + m, IndexOutOfBoundsException.class, () -> x.run(m, 0, 10));
      }
      x.method();
      check.same("the greatest", 4, x.run(count, 4, 10));
    }
  }

  private static void fuelIs0To3000() {
    check.says("run: IllegalArgumentException: fuel is not 0 .. 3000");
    ThrowFlow x = one();
    for (int fuel : new int[] {-1, -2, 3001, 3002, MAX, MIN}) {
      check.fails("fuel " + fuel, IllegalArgumentException.class, () -> x.run(0, 0, fuel));
    }
    for (int fuel : new int[] {0, 1, 2999, 3000}) {
      check.same("fuel " + fuel, 3, x.run(0, 3, fuel));
    }
    x.add(0, JUMP, 0, 0);
    for (int fuel : new int[] {-1, 3001}) {
      check.fails("fuel " + fuel, IllegalArgumentException.class, () -> x.run(0, 0, fuel));
    }
  }

  private static void runNamesTheFirst() {
    check.says("the exception named first is the one if several would do (run)");
    ThrowFlow x = one();
    x.add(0, THROW, 1, 0);
    for (int m : new int[] {-1, 1, 8, MAX, MIN}) {
      for (int fuel : new int[] {-1, 3001, MAX, MIN}) {
        check.fails("both wrong", IndexOutOfBoundsException.class, () -> x.run(m, 0, fuel));
      }
      check.fails("no method, no fuel", IndexOutOfBoundsException.class, () -> x.run(m, 0, 0));
    }
    check.fails("wrong fuel", IllegalArgumentException.class, () -> x.run(0, 0, -1));
    check.fails("wrong fuel", IllegalArgumentException.class, () -> x.run(0, 0, 3001));
    check.fails("no fuel for the THROW", IllegalStateException.class, () -> x.run(0, 0, 0));
    check.fails("fuel for the THROW", UnsupportedOperationException.class, () -> x.run(0, 0, 1));
  }

  private static void fuelAtItsEnd() {
    check.says("IllegalStateException: the fuel is at its end before it gives");
    ThrowFlow x = Check.withMethods(2);
    x.add(0, JUMP, 0, 0);
    for (int fuel : new int[] {0, 1, 2, 2999, 3000}) {
      ends("round and round", x, 0, fuel);
    }
    x.change(0, 0, CALL, 0, 1);
    x.add(0, JUMP, 0, 0);
    x.add(1, SET, 0, 0);
    for (int fuel = 0; fuel < 8; fuel++) {
      ends("in and out of a method", x, 0, fuel);
    }
    x.change(0, 1, GIVE, 0, 0);
    gives("GIVE with the last of it", x, 5, 0, 3);
  }

  private static void exceptionComesOut() {
    check.says("UnsupportedOperationException: an exception comes out of it");
    ThrowFlow x = Check.withMethods(2);
    x.kind(2);
    x.add(0, CALL, 0, 1);
    x.add(1, THROW, 3, 0);
    lets("out of both", x, 0, 3, 2);
    x.handler(0, 0, 0, 2, 1);
    gives("out of one", x, 5, 5, 2);
    x.add(0, AGAIN, 0, 0);
    lets("again", x, 5, 3, 3);
  }

  private static void bothTellOfTheRun() {
    check.says("When one of the last two is thrown, spent() and escaped() tell of this run, too.");
    ThrowFlow x = one();
    x.add(0, ZERO, 0, 3);
    x.add(0, SET, 0, 1);
    x.add(0, THROW, 2, 0);
    x.add(0, GIVE, 0, 0);
    check.same("it gives", 0, x.run(0, 0, 9));
    tells("it gives", x, 2, NONE);
    check.fails("2 comes out", UnsupportedOperationException.class, () -> x.run(0, 1, 9));
    tells("2 comes out", x, 3, 2);
    check.fails("the fuel ends", IllegalStateException.class, () -> x.run(0, 1, 2));
    tells("the fuel ends", x, 2, NONE);
    check.fails("2 comes out", UnsupportedOperationException.class, () -> x.run(0, 1, 3));
    tells("2 comes out", x, 3, 2);
    check.fails("no fuel at all", IllegalStateException.class, () -> x.run(0, 1, 0));
    tells("no fuel at all", x, 0, NONE);
  }

  private static void spentOfTheLatest() {
    check.says("How much fuel the latest run needed; 0 when there was none.");
    ThrowFlow x = Check.withMethods(2);
    check.same("no run", 0, x.spent());
    x.add(0, SET, 0, 0);
    x.add(0, SET, 0, 1);
    check.same("still none", 0, x.spent());
    check.same("run", 1, x.run(0, 5, 3000));
    check.same("what it needed, not what it got", 2, x.spent());
    check.same("asked again", 2, x.spent());
    x.add(0, SET, 0, 2);
    x.out(0);
    x.method();
    x.kind(0);
    check.same("the same after other calls", 2, x.spent());
    check.same("run", 7, x.run(1, 7, 3000));
    check.same("the latest needed none", 0, x.spent());
  }

  private static void escapedOfTheLatest() {
    check.says("The class of the exception that came out in the latest run; NONE when none did, or there was none.");
    ThrowFlow x = Check.withMethods(3);
    check.same("no run", NONE, x.escaped());
    x.add(0, THROW, 0, 0);
    check.same("still none", NONE, x.escaped());
    check.fails("run", UnsupportedOperationException.class, () -> x.run(0, 0, 1));
    check.same("class 0", 0, x.escaped());
    check.same("asked again", 0, x.escaped());
    x.change(0, 0, THROW, 1, 0);
    check.same("the same after other calls", 0, x.escaped());
    x.add(1, CALL, 0, 0);
    x.handler(1, 0, 0, 1, 1);
    check.same("run", 5, x.run(1, 5, 9));
    check.same("it was caught", NONE, x.escaped());
    check.fails("run", UnsupportedOperationException.class, () -> x.run(0, 0, 1));
    check.same("class 1", 1, x.escaped());
    check.same("run", 5, x.run(2, 5, 0));
    check.same("none did in the latest", NONE, x.escaped());
  }

  private static void refusedRunsAreNone() {
    check.says("a call that throws changes nothing, but for what is said of run() (of the last two alone)");
    ThrowFlow x = one();
    x.add(0, SET, 1, 1);
    x.add(0, THROW, 2, 0);
    check.fails("no method", IndexOutOfBoundsException.class, () -> x.run(1, 0, 9));
    tells("before any run", x, 0, NONE);
    check.fails("wrong fuel", IllegalArgumentException.class, () -> x.run(0, 0, 3001));
    tells("before any run", x, 0, NONE);
    check.fails("run", UnsupportedOperationException.class, () -> x.run(0, 0, 9));
    check.fails("no method", IndexOutOfBoundsException.class, () -> x.run(-1, 0, 9));
    tells("behind one", x, 2, 2);
    check.fails("wrong fuel", IllegalArgumentException.class, () -> x.run(0, 0, -1));
    tells("behind one", x, 2, 2);
  }
}
