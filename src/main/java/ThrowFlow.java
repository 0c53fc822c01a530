import java.util.Arrays;

/**
 * Methods of a small machine that may throw and catch: which classes of exceptions can come out
 * of each by the text alone, the way on which they come, and a machine that runs them.
 */
public final class ThrowFlow {
  public static final int NONE = -1;

  private static final int MOST_KINDS = 10;
  private static final int MOST_METHODS = 8;
  private static final int MOST_INSTRUCTIONS = 24;
  private static final int MOST_HANDLERS = 4;
  private static final int MOST_UNDER_WAY = 12;
  private static final int MOST_FUEL = 3000;
  private static final int REGISTERS = 4;

  private static final int SET = 0;
  private static final int ADD = 1;
  private static final int SUB = 2;
  private static final int DIV = 3;
  private static final int JUMP = 4;
  private static final int ZERO = 5;
  private static final int CALL = 6;
  private static final int THROW = 7;
  private static final int AGAIN = 8;
  private static final int GIVE = 9;

  private static final int KIND_OF_DIV = 1;
  private static final int KIND_OF_CALL = 2;

  private final Text text;
  private final Flow flow;
  private final Machine machine;

  public ThrowFlow() {
    text = new Text();
    flow = new Flow(text);
    machine = new Machine(text);
  }

  public int kind(int parent) throws IllegalArgumentException, UnsupportedOperationException {
    if (!text.kinds.has(parent)) {
      throw new IllegalArgumentException("there is no such parent");
    }
    if (text.kinds.isFull()) {
      throw new UnsupportedOperationException("there are ten classes");
    }
    return text.kinds.append(parent);
  }

  public boolean is(int a, int b) {
    return text.kinds.has(a) && text.kinds.has(b) && text.kinds.isOneOf(a, b);
  }

  public int method() {
    return text.isFull() ? NONE : text.appendMethod();
  }

  public int add(int method, int code, int a, int b)
      throws IndexOutOfBoundsException, UnsupportedOperationException, IllegalArgumentException {
    if (!text.hasMethod(method)) {
      throw new IndexOutOfBoundsException("there is no such method");
    }
    Body body = text.bodies[method];
    if (body.isFull()) {
      throw new UnsupportedOperationException("the method has 24 instructions");
    }
    if (!text.allows(code, a, b)) {
      throw new IllegalArgumentException("there is no such instruction");
    }
    flow.stale = true;
    return body.appendInstruction(code, a, b);
  }

  public int handler(int method, int first, int last, int kind, int target)
      throws IndexOutOfBoundsException, UnsupportedOperationException, IllegalArgumentException {
    if (!text.hasMethod(method)) {
      throw new IndexOutOfBoundsException("there is no such method");
    }
    Body body = text.bodies[method];
    if (body.isFullOfHandlers()) {
      throw new UnsupportedOperationException("the method has 4 handlers");
    }
    if (!text.allowsHandler(first, last, kind, target)) {
      throw new IllegalArgumentException("there can be no such handler");
    }
    flow.stale = true;
    return body.appendHandler(first, last, kind, target);
  }

  public int change(int method, int i, int code, int a, int b)
      throws IndexOutOfBoundsException, IllegalArgumentException {
    if (!text.hasInstruction(method, i)) {
      throw new IndexOutOfBoundsException("there is no such method or instruction");
    }
    if (!text.allows(code, a, b)) {
      throw new IllegalArgumentException("there is no such instruction");
    }
    Body body = text.bodies[method];
    int before = body.codes[i];
    body.put(i, code, a, b);
    flow.stale = true;
    return before;
  }

  public int out(int method) {
    flow.refresh();
    return text.hasMethod(method) ? flow.through(Flow.doorOut(method)) : 0;
  }

  public int raises(int method, int i) {
    flow.refresh();
    return text.hasInstruction(method, i) ? flow.raisedAt(method, i) : 0;
  }

  public int catches(int method, int h) {
    flow.refresh();
    return text.hasHandler(method, h) ? flow.through(Flow.doorOf(method, h)) : 0;
  }

  public int way(int method, int kind) {
    flow.refresh();
    return flow.wayLength(method, kind);
  }

  public int step(int method, int kind, int k) {
    flow.refresh();
    boolean isThere = k >= 0 && k < flow.wayLength(method, kind);
    return isThere ? flow.wayPlace(method, kind, k) : NONE;
  }

  public int run(int method, int x, int fuel)
      throws IndexOutOfBoundsException, IllegalArgumentException, IllegalStateException,
          UnsupportedOperationException {
    if (!text.hasMethod(method)) {
      throw new IndexOutOfBoundsException("there is no such method");
    }
    if (fuel < 0 || fuel > MOST_FUEL) {
      throw new IllegalArgumentException("the fuel is not 0 .. 3000");
    }
    machine.start(method, x, fuel);
    if (machine.isUnderWay()) {
      throw new IllegalStateException("the fuel is at its end");
    }
    if (machine.cameOut != NONE) {
      throw new UnsupportedOperationException("an exception came out");
    }
    return machine.given;
  }

  public int spent() {
    return machine.used;
  }

  public int escaped() {
    return machine.cameOut;
  }

  /** The classes of exceptions; sets of them are sums of 2^c. */
  private static final class Kinds {
    // members[k] is the set of the classes that are one of k, so that no chain of parents is walked.
    final int[] members = new int[MOST_KINDS];
    int count;

    Kinds() {
      members[0] = 1 | 1 << 1 | 1 << 2;
      members[1] = 1 << 1;
      members[2] = 1 << 2;
      count = 3;
    }

    boolean has(int kind) {
      return kind >= 0 && kind < count;
    }

    boolean isFull() {
      return count >= MOST_KINDS;
    }

    boolean isOneOf(int a, int b) {
      return (members[b] >> a & 1) != 0;
    }

    int append(int parent) {
      int added = count;
      for (int k = 0; k < added; k++) {
        if (isOneOf(parent, k)) {
          members[k] |= 1 << added;
        }
      }
      members[added] = 1 << added;
      count++;
      return added;
    }
  }

  /** The instructions and handlers of one method. */
  private static final class Body {
    final int[] codes = new int[MOST_INSTRUCTIONS];
    final int[] as = new int[MOST_INSTRUCTIONS];
    final int[] bs = new int[MOST_INSTRUCTIONS];
    int size;

    final int[] firsts = new int[MOST_HANDLERS];
    final int[] lasts = new int[MOST_HANDLERS];
    final int[] caughtKinds = new int[MOST_HANDLERS];
    final int[] targets = new int[MOST_HANDLERS];
    int handlerCount;

    boolean isFull() {
      return size >= MOST_INSTRUCTIONS;
    }

    boolean isFullOfHandlers() {
      return handlerCount >= MOST_HANDLERS;
    }

    int appendInstruction(int code, int a, int b) {
      int added = size;
      size++;
      put(added, code, a, b);
      return added;
    }

    void put(int i, int code, int a, int b) {
      codes[i] = code;
      as[i] = a;
      bs[i] = b;
    }

    int appendHandler(int first, int last, int kind, int target) {
      int added = handlerCount;
      handlerCount++;
      firsts[added] = first;
      lasts[added] = last;
      caughtKinds[added] = kind;
      targets[added] = target;
      return added;
    }

    boolean covers(int h, int i) {
      return firsts[h] <= i && i <= lasts[h];
    }

    /** The handler that catches a class thrown at instruction i, or NONE. */
    int catcher(int i, int kind, Kinds kinds) {
      for (int h = 0; h < handlerCount; h++) {
        if (covers(h, i) && kinds.isOneOf(kind, caughtKinds[h])) {
          return h;
        }
      }
      return NONE;
    }
  }

  /** All that has been told of: the classes and the methods. */
  private static final class Text {
    final Kinds kinds = new Kinds();
    // Methods that are not made yet have empty bodies, so that a CALL of one needs no care in Flow.
    final Body[] bodies = new Body[MOST_METHODS];
    int count;

    Text() {
      for (int m = 0; m < MOST_METHODS; m++) {
        bodies[m] = new Body();
      }
    }

    boolean isFull() {
      return count >= MOST_METHODS;
    }

    int appendMethod() {
      int added = count;
      count++;
      return added;
    }

    boolean hasMethod(int method) {
      return method >= 0 && method < count;
    }

    boolean hasInstruction(int method, int i) {
      return hasMethod(method) && i >= 0 && i < bodies[method].size;
    }

    boolean hasHandler(int method, int h) {
      return hasMethod(method) && h >= 0 && h < bodies[method].handlerCount;
    }

    boolean allows(int code, int a, int b) {
      switch (code) {
        case SET:
        case GIVE:
          return isRegister(a);
        case ADD:
        case SUB:
        case DIV:
          return isRegister(a) && isRegister(b);
        case JUMP:
          return isPlace(a);
        case ZERO:
          return isRegister(a) && isPlace(b);
        case CALL:
          return isRegister(a) && b >= 0 && b < MOST_METHODS;
        case THROW:
          return kinds.has(a);
        case AGAIN:
          return a >= 0 && a < MOST_HANDLERS;
        default:
          return false;
      }
    }

    boolean allowsHandler(int first, int last, int kind, int target) {
      return isPlace(first) && isPlace(last) && first <= last && kinds.has(kind)
          && isPlace(target);
    }

    private static boolean isRegister(int number) {
      return number >= 0 && number < REGISTERS;
    }

    private static boolean isPlace(int number) {
      return number >= 0 && number < MOST_INSTRUCTIONS;
    }
  }

  /**
   * What the text alone says. A DOOR is where exceptions raised at instructions go: each handler of
   * a method is one, and the way out of the method is one. Only a CALL and an AGAIN raise what went
   * through a door, each from one door. So the classes are spread in rounds, and the round in which
   * an instruction first raises a class is the length of its shortest way.
   */
  private static final class Flow {
    static final int DOORS_OF_METHOD = MOST_HANDLERS + 1;
    static final int DOORS = MOST_METHODS * DOORS_OF_METHOD;
    static final int PLACES = MOST_METHODS * MOST_INSTRUCTIONS;
    // A shortest way goes through no door twice.
    static final int LONGEST_WAY = DOORS + 1;

    final Text text;
    boolean stale = true;
    private final int[] raised = new int[PLACES];
    private final int[] lengths = new int[MOST_KINDS * PLACES];
    private final int[] passed = new int[DOORS];
    private final int[] fresh = new int[DOORS];
    private final int[] coming = new int[DOORS];

    Flow(Text text) {
      this.text = text;
    }

    static int doorOf(int method, int h) {
      return method * DOORS_OF_METHOD + h;
    }

    static int doorOut(int method) {
      return method * DOORS_OF_METHOD + MOST_HANDLERS;
    }

    static int placeOf(int method, int i) {
      return method * MOST_INSTRUCTIONS + i;
    }

    int through(int door) {
      return passed[door];
    }

    int raisedAt(int method, int i) {
      return raised[placeOf(method, i)];
    }

    /** How long the way of a class out of a method is; 0 if there is no such method, class or way. */
    int wayLength(int method, int kind) {
      if (!text.hasMethod(method) || !text.kinds.has(kind)) {
        return 0;
      }
      int i = nearest(doorOut(method), kind);
      return i == NONE ? 0 : lengthAt(method, i, kind);
    }

    /** The k-th place of a way that is known to be longer than k. */
    int wayPlace(int method, int kind, int k) {
      int door = doorOut(method);
      for (int passedBy = 0; passedBy < k && door != NONE; passedBy++) {
        int i = nearest(door, kind);
        door = i == NONE ? NONE : sourceDoor(door / DOORS_OF_METHOD, i);
      }
      int last = door == NONE ? NONE : nearest(door, kind);
      return last == NONE ? NONE : placeOf(door / DOORS_OF_METHOD, last);
    }

    /** Of the instructions whose class goes through the door, the first with a shortest way. */
    private int nearest(int door, int kind) {
      int method = door / DOORS_OF_METHOD;
      Body body = text.bodies[method];
      int best = NONE;
      int bestLength = LONGEST_WAY + 1;
      for (int i = 0; i < body.size; i++) {
        int length = lengthAt(method, i, kind);
        if (length > 0 && length < bestLength && goesThrough(method, i, kind) == door) {
          best = i;
          bestLength = length;
        }
      }
      return best;
    }

    /** How long the shortest way of a class from an instruction is; 0 if it can't raise it. */
    private int lengthAt(int method, int i, int kind) {
      int place = placeOf(method, i);
      boolean isRaised = (raised[place] >> kind & 1) != 0;
      return isRaised ? lengths[kind * PLACES + place] : 0;
    }

    private int goesThrough(int method, int i, int kind) {
      int h = text.bodies[method].catcher(i, kind, text.kinds);
      return h == NONE ? doorOut(method) : doorOf(method, h);
    }

    /** The door whose classes an instruction raises too, or NONE. */
    private int sourceDoor(int method, int i) {
      Body body = text.bodies[method];
      switch (body.codes[i]) {
        case CALL:
          return doorOut(body.bs[i]);
        case AGAIN:
          return doorOf(method, body.as[i]);
        default:
          return NONE;
      }
    }

    /** The classes that an instruction raises by itself. */
    private int ownKinds(int method, int i) {
      Body body = text.bodies[method];
      switch (body.codes[i]) {
        case THROW:
          return 1 << body.as[i];
        case DIV:
          return 1 << KIND_OF_DIV;
        case CALL:
          return 1 << KIND_OF_CALL;
        default:
          return 0;
      }
    }

    /** What the text says now; to be called before anything else is asked. */
    void refresh() {
      if (!stale) {
        return;
      }
      Arrays.fill(raised, 0);
      Arrays.fill(passed, 0);
      Arrays.fill(coming, 0);
      raiseOwn();
      for (int length = 2; length <= LONGEST_WAY && openDoors(); length++) {
        raiseFresh(length);
      }
      stale = false;
    }

    private void raiseOwn() {
      for (int m = 0; m < MOST_METHODS; m++) {
        for (int i = 0; i < text.bodies[m].size; i++) {
          note(m, i, ownKinds(m, i), 1);
        }
      }
    }

    private void raiseFresh(int length) {
      for (int m = 0; m < MOST_METHODS; m++) {
        for (int i = 0; i < text.bodies[m].size; i++) {
          int door = sourceDoor(m, i);
          if (door != NONE) {
            note(m, i, fresh[door], length);
          }
        }
      }
    }

    /** Lets the classes of the last round through; whether any went through a door anew. */
    private boolean openDoors() {
      int anew = 0;
      for (int door = 0; door < DOORS; door++) {
        fresh[door] = coming[door] & ~passed[door];
        passed[door] |= fresh[door];
        coming[door] = 0;
        anew |= fresh[door];
      }
      return anew != 0;
    }

    private void note(int method, int i, int set, int length) {
      int place = placeOf(method, i);
      int anew = set & ~raised[place];
      if (anew == 0) {
        return;
      }
      raised[place] |= anew;
      for (int kind = 0; kind < MOST_KINDS; kind++) {
        if ((anew >> kind & 1) != 0) {
          lengths[kind * PLACES + place] = length;
          coming[goesThrough(method, i, kind)] |= 1 << kind;
        }
      }
    }
  }

  /** Runs methods; the rows hold one stretch for each method under way. */
  private static final class Machine {
    final Text text;
    private final int[] methods = new int[MOST_UNDER_WAY];
    private final int[] places = new int[MOST_UNDER_WAY];
    private final int[] registers = new int[MOST_UNDER_WAY * REGISTERS];
    private final int[] caught = new int[MOST_UNDER_WAY * MOST_HANDLERS];
    private int depth;
    int used;
    int given;
    int cameOut = NONE;

    Machine(Text text) {
      this.text = text;
    }

    boolean isUnderWay() {
      return depth > 0;
    }

    void start(int method, int x, int fuel) {
      depth = 0;
      cameOut = NONE;
      enter(method, x);
      giveAtEnds();
      for (used = 0; used < fuel && depth > 0; used++) {
        doInstruction();
        giveAtEnds();
      }
    }

    private void enter(int method, int x) {
      int top = depth;
      depth++;
      methods[top] = method;
      places[top] = 0;
      for (int r = 0; r < REGISTERS; r++) {
        registers[top * REGISTERS + r] = r == 0 ? x : 0;
      }
      for (int h = 0; h < MOST_HANDLERS; h++) {
        caught[top * MOST_HANDLERS + h] = NONE;
      }
    }

    /** Giving where no instruction is left costs no fuel, so it belongs to the instruction before. */
    private void giveAtEnds() {
      for (int left = depth; left > 0 && isAtEnd(); left--) {
        giveBack(content(0));
      }
    }

    private boolean isAtEnd() {
      return depth > 0 && places[depth - 1] >= body().size;
    }

    private Body body() {
      return text.bodies[methods[depth - 1]];
    }

    private int content(int register) {
      return registers[(depth - 1) * REGISTERS + register];
    }

    private void doInstruction() {
      Body body = body();
      int place = places[depth - 1];
      int a = body.as[place];
      int b = body.bs[place];
      switch (body.codes[place]) {
        case SET:
          become(a, b);
          break;
        case ADD:
          become(a, content(a) + content(b));
          break;
        case SUB:
          become(a, content(a) - content(b));
          break;
        case DIV:
          divide(a, b);
          break;
        case JUMP:
          goTo(a);
          break;
        case ZERO:
          goTo(content(a) == 0 ? b : place + 1);
          break;
        case CALL:
          callMethod(a, b);
          break;
        case THROW:
          throwHere(a);
          break;
        case AGAIN:
          throwAgain(a);
          break;
        default:
          giveBack(content(a));
          break;
      }
    }

    private void goTo(int place) {
      places[depth - 1] = place;
    }

    private void goOn() {
      places[depth - 1]++;
    }

    private void become(int register, int value) {
      registers[(depth - 1) * REGISTERS + register] = value;
      goOn();
    }

    private void divide(int a, int b) {
      int divisor = content(b);
      if (divisor == 0) {
        throwHere(KIND_OF_DIV);
      } else {
        become(a, content(a) / divisor);
      }
    }

    private void callMethod(int register, int method) {
      if (depth >= MOST_UNDER_WAY) {
        throwHere(KIND_OF_CALL);
      } else if (text.hasMethod(method)) {
        enter(method, content(register));
      } else {
        become(register, 0);
      }
    }

    /** The caller still stands at its CALL, which names the register. */
    private void giveBack(int value) {
      depth--;
      if (depth == 0) {
        given = value;
      } else {
        become(body().as[places[depth - 1]], value);
      }
    }

    private void throwAgain(int h) {
      int kind = caught[(depth - 1) * MOST_HANDLERS + h];
      if (kind == NONE) {
        goOn();
      } else {
        throwHere(kind);
      }
    }

    private void throwHere(int kind) {
      for (; depth > 0; depth--) {
        Body body = body();
        int h = body.catcher(places[depth - 1], kind, text.kinds);
        if (h != NONE) {
          caught[(depth - 1) * MOST_HANDLERS + h] = kind;
          goTo(body.targets[h]);
          return;
        }
      }
      cameOut = kind;
    }
  }
}
