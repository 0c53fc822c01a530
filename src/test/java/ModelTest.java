import java.util.ArrayList;
import java.util.Arrays;
import java.util.List;

/**
 * Long rows of calls, made by a fixed row of numbers, against a plain model of the document: the
 * sets are grown fact by fact, ways are kept whole and compared, and runs go by recursion.
 */
public final class ModelTest {
  private static final int ROWS = 400;
  private static final int CALLS = 512;
  private static final int NONE = ThrowFlow.NONE;
  private static final Check check = new Check();

  public static void main(String[] args) {
    for (int row = 0; row < ROWS; row++) {
      new ModelTest(row).compare();
    }
    check.end();
  }

  private final ThrowFlow real = new ThrowFlow();
  private final Model model = new Model();
  private final int row;
  private long state;
  private final int methodsWanted;
  private int calls = 0;

  private ModelTest(int row) {
    this.row = row;
    this.state = row * 7919L + 13;
    this.methodsWanted = 1 + next(9);
  }

  private int next(int bound) {
    state = state * 6364136223846793005L + 1442695040888963407L;
    return (int) ((state >>> 33) % bound);
  }

  /** Mostly one of 0 .. bound - 1, at times one that lies outside. */
  private int near(int bound) {
    int roll = next(60);
    if (roll == 0) {
      return -1;
    }
    if (roll == 1) {
      return bound + next(2);
    }
    return next(Math.max(bound, 1));
  }

  private int value() {
    int[] values = {0, 0, 1, 1, 2, 3, -1, 5, Integer.MIN_VALUE, Integer.MAX_VALUE};
    return values[next(values.length)];
  }

  private void compare() {
    for (int m = 0; m < methodsWanted; m++) {
      same("method");
    }
    if (row % 4 == 0) {
      fill();
    }
    while (calls < CALLS) {
      int roll = next(100);
      if (roll < 3) {
        same("kind", near(model.parents.size()));
      } else if (roll < 5) {
        same("is", near(model.parents.size()), near(model.parents.size()));
      } else if (roll < 30) {
        instruction("add", method());
      } else if (roll < 37) {
        handlerOrMethod();
      } else if (roll < 50) {
        instruction("change", method());
      } else {
        ask(roll);
      }
    }
  }

  /** In some rows the text has nearly all that it can have, so that its limits are come to. */
  private void fill() {
    for (int c = 0; c < 8; c++) {
      same("kind", next(model.parents.size()));
    }
    for (int m = 0; m < model.methods.size(); m++) {
      for (int i = 0; i < 24; i++) {
        instruction("add", m);
      }
      for (int h = 0; h < 4; h++) {
        int first = next(24);
        same("handler", m, first, first + next(24 - first), next(model.parents.size()), next(24));
      }
    }
  }

  private void handlerOrMethod() {
    if (next(20) == 0) {
      same("method");
      return;
    }
    int first = next(3) == 0 ? near(24) : next(6);
    int last = next(10) == 0 ? near(24) : first + next(6);
    same("handler", method(), first, last, near(model.parents.size()), next(3) == 0 ? near(24) : next(8));
  }

  private void instruction(String call, int m) {
    int[] codes = {0, 1, 2, 3, 4, 5, 6, 6, 6, 6, 7, 7, 8, 8, 8, 9};
    int code = next(40) == 0 ? near(10) : codes[next(codes.length)];
    int a = switch (code) {
      case 4 -> next(3) == 0 ? near(24) : near(6);
      case 7 -> near(model.parents.size());
      default -> near(4);
    };
    int b = switch (code) {
      case 0 -> value();
      case 5 -> next(3) == 0 ? near(24) : near(6);
      case 6 -> near(Math.min(8, model.methods.size() + 1));
      default -> near(4);
    };
    if (call.equals("add")) {
      same("add", m, code, a, b);
    } else {
      same("change", m, near(model.size(m)), code, a, b);
    }
  }

  private int method() {
    return near(model.methods.size());
  }

  private void ask(int roll) {
    int m = method();
    int kind = near(model.parents.size());
    if (roll < 58) {
      same("out", m);
    } else if (roll < 66) {
      same("raises", m, near(model.size(m)));
    } else if (roll < 72) {
      same("catches", m, near(4));
    } else if (roll < 78) {
      same("way", m, kind);
    } else if (roll < 84) {
      wholeWay(m, kind);
    } else {
      same("run", m, value(), next(6) == 0 ? near(3001) : next(120));
      same("spent");
      same("escaped");
    }
  }

  private void wholeWay(int m, int kind) {
    int length = model.way(m, kind);
    for (int k = -1; k <= length; k++) {
      same("step", m, kind, k);
    }
  }

  /** Behind the 512th call of an object any answer is right, so none is asked for. */
  private void same(String call, int... p) {
    if (calls >= CALLS) {
      return;
    }
    calls++;
    String want = answer(() -> model.call(call, p));
    String got = answer(() -> callReal(call, p));
    check.same("row " + row + ": " + call + Arrays.toString(p), want, got);
  }

  private interface Asked {
    int answer();
  }

  private static String answer(Asked asked) {
    try {
      return Integer.toString(asked.answer());
    } catch (RuntimeException e) {
      return e.getClass().getSimpleName();
    }
  }

  private int callReal(String call, int[] p) {
    return switch (call) {
      case "kind" -> real.kind(p[0]);
      case "is" -> real.is(p[0], p[1]) ? 1 : 0;
      case "method" -> real.method();
      case "add" -> real.add(p[0], p[1], p[2], p[3]);
      case "handler" -> real.handler(p[0], p[1], p[2], p[3], p[4]);
      case "change" -> real.change(p[0], p[1], p[2], p[3], p[4]);
      case "out" -> real.out(p[0]);
      case "raises" -> real.raises(p[0], p[1]);
      case "catches" -> real.catches(p[0], p[1]);
      case "way" -> real.way(p[0], p[1]);
      case "step" -> real.step(p[0], p[1], p[2]);
      case "run" -> real.run(p[0], p[1], p[2]);
      case "spent" -> real.spent();
      default -> real.escaped();
    };
  }

  private record Instruction(int code, int a, int b) {}

  private record Handler(int first, int last, int kind, int target) {}

  private static final class Code {
    final List<Instruction> instructions = new ArrayList<>();
    final List<Handler> handlers = new ArrayList<>();
  }

  private static final class Thrown extends RuntimeException {
    private static final long serialVersionUID = 1L;
    final int kind;

    Thrown(int kind) {
      super(null, null, false, false);
      this.kind = kind;
    }
  }

  private static final class Model {
    final List<Integer> parents = new ArrayList<>(List.of(NONE, 0, 0));
    final List<Code> methods = new ArrayList<>();
    private int spent = 0;
    private int escaped = NONE;
    private int fuel;
    private int underWay;
    // The best way of each class from each instruction, null if there is none; kept for the text.
    private List<List<List<Integer>>> ways;

    int call(String call, int[] p) {
      return switch (call) {
        case "kind" -> kind(p[0]);
        case "is" -> is(p[0], p[1]) ? 1 : 0;
        case "method" -> method();
        case "add" -> add(p[0], p[1], p[2], p[3]);
        case "handler" -> handler(p[0], p[1], p[2], p[3], p[4]);
        case "change" -> change(p[0], p[1], p[2], p[3], p[4]);
        case "out" -> out(p[0]);
        case "raises" -> raises(p[0], p[1]);
        case "catches" -> catches(p[0], p[1]);
        case "way" -> way(p[0], p[1]);
        case "step" -> step(p[0], p[1], p[2]);
        case "run" -> run(p[0], p[1], p[2]);
        case "spent" -> spent;
        default -> escaped;
      };
    }

    int size(int m) {
      return isMethod(m) ? methods.get(m).instructions.size() : 0;
    }

    private static boolean in(int number, int bound) {
      return 0 <= number && number < bound;
    }

    private boolean isKind(int c) {
      return in(c, parents.size());
    }

    private boolean isMethod(int m) {
      return in(m, methods.size());
    }

    private int kind(int parent) {
      if (!isKind(parent)) {
        throw new IllegalArgumentException();
      }
      if (parents.size() == 10) {
        throw new UnsupportedOperationException();
      }
      parents.add(parent);
      ways = null;
      return parents.size() - 1;
    }

    private boolean is(int a, int b) {
      return isKind(a) && isKind(b) && (a == b || is(parents.get(a), b));
    }

    private int method() {
      if (methods.size() == 8) {
        return NONE;
      }
      methods.add(new Code());
      ways = null;
      return methods.size() - 1;
    }

    private void refuse(int code, int a, int b) {
      boolean fine = in(code, 10);
      if (code <= 3 || code == 5 || code == 6 || code == 9) {
        fine &= in(a, 4);
      }
      if (code >= 1 && code <= 3) {
        fine &= in(b, 4);
      }
      fine &= code != 4 || in(a, 24);
      fine &= code != 5 || in(b, 24);
      fine &= code != 6 || in(b, 8);
      fine &= code != 7 || isKind(a);
      fine &= code != 8 || in(a, 4);
      if (!fine) {
        throw new IllegalArgumentException();
      }
    }

    private int add(int m, int code, int a, int b) {
      if (!isMethod(m)) {
        throw new IndexOutOfBoundsException();
      }
      List<Instruction> all = methods.get(m).instructions;
      if (all.size() == 24) {
        throw new UnsupportedOperationException();
      }
      refuse(code, a, b);
      all.add(new Instruction(code, a, b));
      ways = null;
      return all.size() - 1;
    }

    private int handler(int m, int first, int last, int kind, int target) {
      if (!isMethod(m)) {
        throw new IndexOutOfBoundsException();
      }
      List<Handler> all = methods.get(m).handlers;
      if (all.size() == 4) {
        throw new UnsupportedOperationException();
      }
      if (!in(first, 24) || !in(last, 24) || !in(target, 24) || first > last || !isKind(kind)) {
        throw new IllegalArgumentException();
      }
      all.add(new Handler(first, last, kind, target));
      ways = null;
      return all.size() - 1;
    }

    private int change(int m, int i, int code, int a, int b) {
      if (!isMethod(m) || !in(i, size(m))) {
        throw new IndexOutOfBoundsException();
      }
      refuse(code, a, b);
      ways = null;
      return methods.get(m).instructions.set(i, new Instruction(code, a, b)).code();
    }

    private int catcher(int m, int i, int c) {
      List<Handler> all = methods.get(m).handlers;
      for (int h = 0; h < all.size(); h++) {
        Handler one = all.get(h);
        if (one.first() <= i && i <= one.last() && is(c, one.kind())) {
          return h;
        }
      }
      return NONE;
    }

    private List<List<Integer>> waysOf(int c) {
      if (ways == null) {
        ways = new ArrayList<>();
        findWays();
      }
      return ways.get(c);
    }

    private List<Integer> wayFrom(int c, int m, int i) {
      return waysOf(c).get(24 * m + i);
    }

    /** Grows ways from their ends until none is found that is better; a set is where there is one. */
    private void findWays() {
      for (int c = 0; c < parents.size(); c++) {
        List<List<Integer>> best = new ArrayList<>();
        for (int place = 0; place < 8 * 24; place++) {
          best.add(null);
        }
        ways.add(best);
        boolean better = true;
        while (better) {
          better = false;
          for (int m = 0; m < methods.size(); m++) {
            for (int i = 0; i < size(m); i++) {
              better |= improve(best, c, m, i);
            }
          }
        }
      }
    }

    private boolean improve(List<List<Integer>> best, int c, int m, int i) {
      Instruction one = methods.get(m).instructions.get(i);
      List<Integer> found = null;
      if (one.code() == 7 && one.a() == c || one.code() == 3 && c == 1 || one.code() == 6 && c == 2) {
        found = List.of(24 * m + i);
      } else if (one.code() == 6 && isMethod(one.b())) {
        found = before(24 * m + i, bestOf(best, c, one.b(), NONE));
      } else if (one.code() == 8) {
        found = before(24 * m + i, bestOf(best, c, m, one.a()));
      }
      if (found == null || !isBetter(found, best.get(24 * m + i))) {
        return false;
      }
      best.set(24 * m + i, found);
      return true;
    }

    private static List<Integer> before(int place, List<Integer> rest) {
      if (rest == null) {
        return null;
      }
      List<Integer> whole = new ArrayList<>(List.of(place));
      whole.addAll(rest);
      return whole;
    }

    /** The best way from the instructions of a method at which h (or none) catches c. */
    private List<Integer> bestOf(List<List<Integer>> best, int c, int m, int h) {
      List<Integer> found = null;
      for (int i = 0; i < size(m); i++) {
        List<Integer> one = best.get(24 * m + i);
        if (one != null && catcher(m, i, c) == h && isBetter(one, found)) {
          found = one;
        }
      }
      return found;
    }

    private static boolean isBetter(List<Integer> one, List<Integer> other) {
      if (other == null || one.size() != other.size()) {
        return other == null || one.size() < other.size();
      }
      for (int k = 0; k < one.size(); k++) {
        if (!one.get(k).equals(other.get(k))) {
          return one.get(k) < other.get(k);
        }
      }
      return false;
    }

    private List<Integer> wayOut(int m, int c) {
      if (!isMethod(m) || !isKind(c)) {
        return List.of();
      }
      List<Integer> found = bestOf(waysOf(c), c, m, NONE);
      return found == null ? List.of() : found;
    }

    private int out(int m) {
      int sum = 0;
      for (int c = 0; c < parents.size(); c++) {
        sum += wayOut(m, c).isEmpty() ? 0 : 1 << c;
      }
      return sum;
    }

    private int raises(int m, int i) {
      int sum = 0;
      for (int c = 0; c < parents.size() && isMethod(m) && in(i, size(m)); c++) {
        sum += wayFrom(c, m, i) == null ? 0 : 1 << c;
      }
      return sum;
    }

    private int catches(int m, int h) {
      if (!isMethod(m) || !in(h, methods.get(m).handlers.size())) {
        return 0;
      }
      int sum = 0;
      for (int c = 0; c < parents.size(); c++) {
        boolean some = false;
        for (int i = 0; i < size(m); i++) {
          some |= wayFrom(c, m, i) != null && catcher(m, i, c) == h;
        }
        sum += some ? 1 << c : 0;
      }
      return sum;
    }

    int way(int m, int c) {
      return wayOut(m, c).size();
    }

    private int step(int m, int c, int k) {
      List<Integer> all = wayOut(m, c);
      return in(k, all.size()) ? all.get(k) : NONE;
    }

    private int run(int m, int x, int most) {
      if (!isMethod(m)) {
        throw new IndexOutOfBoundsException();
      }
      if (!in(most, 3001)) {
        throw new IllegalArgumentException();
      }
      fuel = most;
      underWay = 0;
      escaped = NONE;
      try {
        return give(m, x);
      } catch (Thrown t) {
        escaped = t.kind;
        throw new UnsupportedOperationException();
      } finally {
        spent = most - fuel;
      }
    }

    private int give(int m, int x) {
      Code code = methods.get(m);
      int[] r = {x, 0, 0, 0};
      int[] caught = {NONE, NONE, NONE, NONE};
      int i = 0;
      underWay++;
      while (i < code.instructions.size()) {
        if (fuel == 0) {
          throw new IllegalStateException();
        }
        fuel--;
        Instruction one = code.instructions.get(i);
        if (one.code() == 9) {
          underWay--;
          return r[one.a()];
        }
        try {
          i = after(one, i, r, caught);
        } catch (Thrown t) {
          int h = catcher(m, i, t.kind);
          if (h == NONE) {
            underWay--;
            throw t;
          }
          caught[h] = t.kind;
          i = code.handlers.get(h).target();
        }
      }
      underWay--;
      return r[0];
    }

    private int after(Instruction one, int i, int[] r, int[] caught) {
      int a = one.a();
      int b = one.b();
      switch (one.code()) {
        case 0 -> r[a] = b;
        case 1 -> r[a] += r[b];
        case 2 -> r[a] -= r[b];
        case 3 -> {
          if (r[b] == 0) {
            throw new Thrown(1);
          }
          r[a] = (int) ((long) r[a] / r[b]);
        }
        case 6 -> {
          if (underWay == 12) {
            throw new Thrown(2);
          }
          r[a] = isMethod(b) ? give(b, r[a]) : 0;
        }
        case 7 -> throw new Thrown(a);
        case 8 -> {
          if (caught[a] != NONE) {
            throw new Thrown(caught[a]);
          }
        }
        default -> { }
      }
      if (one.code() == 4) {
        return a;
      }
      return one.code() == 5 && r[a] == 0 ? b : i + 1;
    }
  }
}
