/** As many as there can be of everything at once, up to the last of the calls that are answered. */
public final class LimitsTest implements Codes {
  private static final Check check = new Check();
  private static final int MOST_CALLS = 512;

  public static void main(String[] args) {
    everythingAtOnce();
    lastCallOfText();
    lastCallOfRuns();
    manyObjects();
    check.end();
  }

  /** Class c > 2 is one of c - 1; each method calls the next one and throws all classes. */
  private static ThrowFlow full() {
    ThrowFlow x = new ThrowFlow();
    for (int c = 3; c < 10; c++) {
      x.kind(c - 1);
    }
    for (int m = 0; m < 8; m++) {
      x.method();
      x.add(m, CALL, 0, (m + 1) % 8);
      for (int c = 0; c < 10; c++) {
        x.add(m, THROW, c, 0);
      }
      for (int i = 11; i < 23; i++) {
        x.add(m, AGAIN, i % 4, 0);
      }
      x.add(m, GIVE, 0, 0);
      x.handler(m, 0, 0, 2, 23);
      x.handler(m, 1, 10, 9, 23);
      x.handler(m, 4, 9, 2, 23);
      x.handler(m, 11, 23, 8, 23);
    }
    return x;
  }

  private static final int CALLS_OF_FULL = 7 + 8 * (1 + 24 + 4);

  private static void everythingAtOnce() {
    check.says("at most ten; METHODS are 0 .. 7; at most 24 INSTRUCTIONS and at most 4 HANDLERS");
    ThrowFlow x = full();
    for (int m = 0; m < 8; m++) {
      check.same("raises of the CALL", 255, x.raises(m, 0));
      check.same("catches of 0: 2 and what is one of it", 252, x.catches(m, 0));
      check.same("catches of 1: 9 alone", 512, x.catches(m, 1));
      check.same("catches of 2: from 3 to 8", 504, x.catches(m, 2));
      check.same("catches of 3: 8 and 9 from the AGAINs", 768, x.catches(m, 3));
      check.same("out: all but these", 255, x.out(m));
      check.same("way of 2", 1, x.way(m, 2));
      check.same("step of 2", 24 * m + 3, x.step(m, 2, 0));
      check.same("way of 7", 2, x.way(m, 7));
      check.same("step 0 of 7", 24 * m + 14, x.step(m, 7, 0));
      check.same("step 1 of 7", 24 * m + 8, x.step(m, 7, 1));
      check.same("way of 9", 0, x.way(m, 9));
      int n = m;
      check.fails("run", UnsupportedOperationException.class, () -> x.run(n, 5, 14));
      check.same("twelve CALLs, a GIVE and a THROW", 14, x.spent());
      check.same("of class 0", 0, x.escaped());
    }
  }

  private static void lastCallOfText() {
    check.says("An object is used for at most 512 calls after it has been made");
    ThrowFlow x = full();
    for (int n = CALLS_OF_FULL; n < MOST_CALLS - 2; n++) {
      check.same("out in call " + (n + 1), 255, x.out(n % 8));
    }
    check.same("the last but one", GIVE, x.change(7, 23, THROW, 9, 0));
    check.same("the last call", 24 + 14, x.step(1, 7, 0));
  }

  private static void lastCallOfRuns() {
    check.says("An object is used for at most 512 calls after it has been made (of which all may be runs)");
    ThrowFlow x = Check.withMethods(1);
    x.add(0, SUB, 1, 0);
    x.add(0, JUMP, 0, 0);
    for (int n = 3; n < MOST_CALLS - 2; n++) {
      check.fails("run in call " + (n + 1), IllegalStateException.class, () -> x.run(0, 1, 3000));
    }
    check.same("the last but one", 3000, x.spent());
    check.same("the last call", NONE, x.escaped());
  }

  private static void manyObjects() {
    check.says("A new object");
    ThrowFlow[] all = new ThrowFlow[200];
    for (int n = 0; n < all.length; n++) {
      all[n] = Check.withMethods(1 + n % 8);
      all[n].add(n % 8, THROW, n % 3, 0);
    }
    for (int n = 0; n < all.length; n++) {
      check.same("out of object " + n, 1 << n % 3, all[n].out(n % 8));
      check.same("out of the one above", 0, all[n].out(n % 8 + 1));
    }
  }
}
