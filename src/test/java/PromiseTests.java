import java.util.Objects;

/** The promises one by one: ordinary calls, the edges that the document names, wrong calls. */
public final class PromiseTests {
  private static final String INDEX = "IndexOutOfBoundsException";
  private static final String ARGUMENT = "IllegalArgumentException";
  private static final String STATE = "IllegalStateException";
  private static final int LEAST = Integer.MIN_VALUE;
  private static final int MOST = Integer.MAX_VALUE;

  private static int promise = 0;
  private static int wrong = 0;
  private static int checks = 0;

  private interface Call {
    Object answer();
  }

  private static void is(Object got, Object want) {
    checks++;
    Object told = got instanceof Integer ? (Object) (long) (Integer) got : got;
    Object due = want instanceof Integer ? (Object) (long) (Integer) want : want;
    if (!Objects.equals(told, due)) {
      wrong++;
      StackTraceElement[] trace = new Throwable().getStackTrace();
      int line = trace[1].getMethodName().equals("fails") ? trace[2].getLineNumber() : trace[1].getLineNumber();
      System.out.println("promise " + promise + ", line " + line + ": answered " + told + ", due is " + due);
    }
  }

  /** The call throws exactly that, and changes nothing. */
  private static void fails(Stringpuppet x, String name, Call call) {
    long before = x.digest();
    String thrown = "nothing";
    try {
      call.answer();
    } catch (RuntimeException e) {
      thrown = e.getClass().getSimpleName();
    }
    is(thrown, name);
    is(x.digest(), before);
  }

  public static void main(String[] args) {
    puppets();
    tables();
    slipAndSteps();
    poses();
    freedom();
    tablesAsked();
    whatThereIs();
    System.out.println(wrong == 0 ? "all " + checks + " checks hold" : wrong + " checks do not hold");
    if (wrong != 0) {
      System.exit(1);
    }
  }

  private static Stringpuppet fresh() {
    return new Stringpuppet();
  }

  /** Four joints on three strings. */
  private static Stringpuppet marionette() {
    Stringpuppet x = fresh();
    x.joint(0, 0, 5, 2);
    x.joint(0, 1, 2, 0);
    x.joint(0, 0, 1, 3);
    x.string(0, 1, 0, 6);
    x.string(0, 3, 2, 5);
    x.string(0, 4, 3, 8);
    return x;
  }

  private static Stringpuppet written(String text) {
    Stringpuppet x = fresh();
    write(x, text);
    return x;
  }

  private static void write(Stringpuppet x, String text) {
    x.wipe();
    for (int i = 0; i < text.length(); i++) {
      x.type("0123456789:,;".indexOf(text.charAt(i)));
    }
  }

  /** Keys of one string's let, moment by moment. */
  private static void keys(Stringpuppet x, int puppet, int string, int... lets) {
    for (int moment = 0; moment < lets.length; moment++) {
      x.let(puppet, string, lets[moment]);
      x.key(puppet, moment);
    }
  }

  private static void puppets() {
    newObject();
    jointAndUnjoint();
    weightAndString();
    cutAndLet();
    pull();
    crossTiltMirror();
  }

  private static void newObject() {
    promise = 1;
    Stringpuppet x = fresh();
    int[][] due = {{1, 0, 2, 0, 0, 0, 1}, {1, 0, 5, 0, 0, 1, 1}};
    for (int puppet = 0; puppet < 2; puppet++) {
      for (int what = 0; what <= 6; what++) {
        is(x.ofPuppet(puppet, what), due[puppet][what]);
      }
      is(x.ofJoint(puppet, 0, 0), -1);
      is(x.ofJoint(puppet, 0, 1), 0);
      is(x.ofJoint(puppet, 0, 2), 1);
      is(x.ofJoint(puppet, 0, 3), 0);
      is(x.ofJoint(puppet, 0, 4), 0);
      is(x.pose(puppet), "0,0");
      is(x.paper(puppet), "");
    }
    for (int what = 0; what <= 5; what++) {
      is(x.house(what), 0);
    }
    is(x.row(), "");
    is(x.slip(), "");
    is(x.fault(), -1);
    is(fresh().digest(), x.digest());
  }

  private static void jointAndUnjoint() {
    promise = 2;
    Stringpuppet x = fresh();
    is(x.joint(0, 0, 1, 0), 1);
    is(x.joint(0, 1, 2, 9), 2);
    is(x.joint(1, 0, 4, 3), 1);
    is(x.ofJoint(0, 2, 0), 1);
    is(x.ofJoint(0, 2, 1), 2);
    is(x.ofJoint(0, 2, 2), 9);
    for (int square : new int[] {0, 3, 6, 8, -1, -4, LEAST, MOST}) {
      fails(x, ARGUMENT, () -> x.joint(0, 0, square, 1));
    }
    fails(x, ARGUMENT, () -> x.joint(0, 0, 1, -1));
    fails(x, ARGUMENT, () -> x.joint(0, 0, 1, 10));
    fails(x, ARGUMENT, () -> x.joint(0, 0, 1, MOST));
    for (int parent : new int[] {3, -1, LEAST, MOST}) {
      fails(x, INDEX, () -> x.joint(0, parent, 3, 10));
    }
    fails(x, INDEX, () -> x.joint(1, 2, 1, 1));
    for (int puppet : new int[] {-1, 2, LEAST, MOST}) {
      fails(x, INDEX, () -> x.joint(puppet, 0, 3, 10));
    }
    is(x.joint(0, 0, 5, 1), 3);
    fails(x, STATE, () -> x.joint(0, 3, 1, 1));
    fails(x, ARGUMENT, () -> x.joint(0, 3, 3, 1));
    fails(x, ARGUMENT, () -> x.joint(0, 3, 1, 10));
    fails(x, INDEX, () -> x.joint(0, 4, 1, 1));
    promise = 3;
    x.string(0, 0, 3, 1);
    x.string(0, 1, 1, 2);
    x.string(0, 2, 3, 3);
    x.tear(0, 1, 7);
    is(x.unjoint(0), 3);
    is(x.ofPuppet(0, 0), 3);
    is(x.ofPuppet(0, 1), 1);
    is(x.ofString(0, 0, 0), 1);
    is(x.ofString(0, 0, 2), 2);
    is(x.ofString(0, 0, 3), 7);
    is(x.unjoint(0), 2);
    is(x.unjoint(0), 1);
    is(x.ofPuppet(0, 1), 0);
    fails(x, STATE, () -> x.unjoint(0));
    fails(x, INDEX, () -> x.unjoint(2));
    fails(x, INDEX, () -> x.unjoint(-1));
    is(x.unjoint(1), 1);
    is(x.joint(0, 0, 2, 4), 1);
    is(x.ofJoint(0, 1, 3), 0);
  }

  private static void weightAndString() {
    promise = 4;
    Stringpuppet x = fresh();
    x.joint(1, 0, 1, 5);
    is(x.weight(1, 1, 0), 5);
    is(x.weight(1, 1, 9), 0);
    is(x.ofJoint(1, 1, 2), 9);
    is(x.ofJoint(1, 0, 2), 1);
    fails(x, ARGUMENT, () -> x.weight(1, 1, 10));
    fails(x, ARGUMENT, () -> x.weight(1, 1, -1));
    fails(x, INDEX, () -> x.weight(1, 2, 10));
    fails(x, INDEX, () -> x.weight(0, 1, 1));
    fails(x, INDEX, () -> x.weight(0, -1, 1));
    fails(x, INDEX, () -> x.weight(2, 0, 10));
    fails(x, INDEX, () -> x.weight(LEAST, 0, 1));
    promise = 5;
    is(x.string(1, 0, 1, 9), 0);
    is(x.string(1, 4, 0, 0), 1);
    is(x.ofString(1, 0, 0), 0);
    is(x.ofString(1, 0, 1), 1);
    is(x.ofString(1, 0, 2), 9);
    is(x.ofString(1, 0, 3), -1);
    is(x.ofString(1, 1, 0), 4);
    fails(x, ARGUMENT, () -> x.string(1, 0, 0, 10));
    fails(x, ARGUMENT, () -> x.string(1, 0, 0, -1));
    fails(x, INDEX, () -> x.string(1, 5, 0, 10));
    fails(x, INDEX, () -> x.string(1, -1, 0, 1));
    fails(x, INDEX, () -> x.string(1, 0, 2, 10));
    fails(x, INDEX, () -> x.string(1, 0, -1, 1));
    fails(x, INDEX, () -> x.string(-1, 0, 0, 1));
    fails(x, INDEX, () -> x.string(2, 0, 0, 1));
    x.tear(1, 1, 3);
    is(x.string(1, 4, 0, 5), 2);
    is(x.ofString(1, 2, 3), -1);
    fails(x, STATE, () -> x.string(1, 0, 0, 1));
    fails(x, ARGUMENT, () -> x.string(1, 0, 0, 10));
    fails(x, INDEX, () -> x.string(1, 5, 0, 1));
    is(x.string(0, 2, 0, 4), 0);
  }

  private static void cutAndLet() {
    promise = 6;
    Stringpuppet x = marionette();
    x.tear(0, 2, 4);
    x.key(0, 5);
    is(x.cut(0, 1), 2);
    is(x.ofString(0, 1, 0), 4);
    is(x.ofString(0, 1, 1), 3);
    is(x.ofString(0, 1, 2), 8);
    is(x.ofString(0, 1, 3), 4);
    is(x.lets(0, 5), "6 5 8");
    fails(x, INDEX, () -> x.cut(0, 2));
    fails(x, INDEX, () -> x.cut(0, -1));
    fails(x, INDEX, () -> x.cut(2, 0));
    fails(x, INDEX, () -> x.cut(-1, 0));
    is(x.string(0, 0, 0, 9), 2);
    is(x.ofString(0, 2, 3), -1);
    is(x.cut(0, 2), 2);
    is(x.cut(0, 0), 1);
    is(x.cut(0, 0), 0);
    fails(x, INDEX, () -> x.cut(0, 0));
    promise = 7;
    Stringpuppet y = marionette();
    is(y.let(0, 1, 0), 5);
    is(y.let(0, 1, 9), 0);
    is(y.ofString(0, 1, 2), 9);
    is(y.ofString(0, 0, 2), 6);
    fails(y, ARGUMENT, () -> y.let(0, 1, 10));
    fails(y, ARGUMENT, () -> y.let(0, 1, -1));
    fails(y, INDEX, () -> y.let(0, 3, 10));
    fails(y, INDEX, () -> y.let(0, -1, 1));
    fails(y, INDEX, () -> y.let(1, 0, 1));
    fails(y, INDEX, () -> y.let(2, 0, 10));
    fails(y, INDEX, () -> y.let(-1, 0, 1));
  }

  private static void pull() {
    promise = 8;
    Stringpuppet x = fresh();
    x.string(0, 2, 0, 7);
    is(x.pull(0, 0, 5), 2);
    is(x.pose(0), "2,5");
    // The peg hangs 2 above the stage: shorter there is no pose.
    is(x.pull(0, 0, 1), -9);
    is(x.ofString(0, 0, 2), 2);
    is(x.house(3), 1);
    is(x.pull(0, 0, 3), -9);
    is(x.pull(0, 0, -8), -9);
    is(x.house(3), 3);
    is(x.house(2), 2);
    is(x.pull(0, 0, 0), 2);
    is(x.pull(0, 0, -7), 9);
    is(x.pull(0, 0, 9), -9);
    x.let(0, 0, 0);
    // Without a pose any let will do.
    is(x.pull(0, 0, -1), 1);
    is(x.pull(0, 0, 1), 0);
    is(x.pull(0, 0, -9), 9);
    fails(x, ARGUMENT, () -> x.pull(0, 0, 10));
    fails(x, ARGUMENT, () -> x.pull(0, 0, -10));
    fails(x, ARGUMENT, () -> x.pull(0, 0, LEAST));
    fails(x, ARGUMENT, () -> x.pull(0, 0, MOST));
    fails(x, INDEX, () -> x.pull(0, 1, 10));
    fails(x, INDEX, () -> x.pull(0, -1, 1));
    fails(x, INDEX, () -> x.pull(1, 0, 1));
    fails(x, INDEX, () -> x.pull(2, 0, 10));
  }

  private static void crossTiltMirror() {
    promise = 9;
    Stringpuppet x = fresh();
    x.string(1, 0, 0, 7);
    is(x.cross(1, 0), 5);
    is(x.ofString(1, 0, 4), -2);
    is(x.cross(1, 7), 0);
    is(x.ofPuppet(1, 2), 7);
    is(x.ofPuppet(0, 2), 2);
    is(x.pose(1), "5,0");
    fails(x, ARGUMENT, () -> x.cross(1, 8));
    fails(x, ARGUMENT, () -> x.cross(1, -1));
    fails(x, INDEX, () -> x.cross(2, 8));
    fails(x, INDEX, () -> x.cross(-1, 0));
    promise = 10;
    is(x.tilt(1, 1), 0);
    is(x.ofString(1, 0, 5), 5);
    is(x.tilt(1, -1), 1);
    is(x.ofString(1, 0, 5), 9);
    is(x.pose(1), "5,2");
    is(x.ofPuppet(1, 3), -1);
    is(x.ofPuppet(0, 3), 0);
    fails(x, ARGUMENT, () -> x.tilt(1, 2));
    fails(x, ARGUMENT, () -> x.tilt(1, -2));
    fails(x, INDEX, () -> x.tilt(2, 2));
    fails(x, INDEX, () -> x.tilt(-1, 0));
    promise = 11;
    x.string(1, 3, 0, 9);
    is(x.mirror(1), 0);
    is(x.ofPuppet(1, 3), 1);
    is(x.ofString(1, 0, 0), 4);
    is(x.ofString(1, 1, 0), 1);
    is(x.ofString(1, 0, 4), 2);
    is(x.ofString(1, 0, 5), 9);
    is(x.pose(1), "2,2");
    is(x.mirror(1), 7);
    is(x.pose(1), "5,2");
    is(x.mirror(0), 5);
    fails(x, INDEX, () -> x.mirror(2));
    fails(x, INDEX, () -> x.mirror(-1));
  }

  private static void tables() {
    keyUnkeyTear();
    exchangeUntwist();
    handThing();
    read();
  }

  private static void keyUnkeyTear() {
    promise = 12;
    Stringpuppet x = fresh();
    is(x.key(0, 15), 1);
    is(x.lets(0, 15), "0 0 0");
    x.string(0, 2, 0, 7);
    is(x.key(0, 0), 2);
    is(x.key(0, 15), 2);
    is(x.paper(0), "0:7,0,0;15:7,0,0;");
    is(x.ofPuppet(0, 4), 2);
    is(x.ofPuppet(1, 4), 0);
    // A string that is torn has its let all the same.
    x.tear(0, 0, 0);
    x.let(0, 0, 3);
    is(x.key(0, 4), 3);
    is(x.lets(0, 4), "3 0 0");
    x.cut(0, 0);
    is(x.key(0, 4), 3);
    is(x.lets(0, 4), "0 0 0");
    fails(x, ARGUMENT, () -> x.key(0, 16));
    fails(x, ARGUMENT, () -> x.key(0, -1));
    fails(x, INDEX, () -> x.key(2, 16));
    fails(x, INDEX, () -> x.key(-1, 0));
    promise = 13;
    fails(x, STATE, () -> x.unkey(0, 1));
    fails(x, STATE, () -> x.unkey(1, 0));
    is(x.unkey(0, 4), 2);
    is(x.unkey(0, 0), 1);
    fails(x, STATE, () -> x.unkey(0, 0));
    is(x.paper(0), "15:7,0,0;");
    fails(x, ARGUMENT, () -> x.unkey(0, 16));
    fails(x, ARGUMENT, () -> x.unkey(0, -1));
    fails(x, INDEX, () -> x.unkey(2, 16));
    fails(x, INDEX, () -> x.unkey(-1, 0));
    is(x.unkey(0, 15), 0);
    promise = 14;
    Stringpuppet y = marionette();
    is(y.tear(0, 1, 0), -1);
    is(y.tear(0, 1, 15), 0);
    is(y.ofString(0, 1, 3), 15);
    is(y.at(0, 14), y.pose(0));
    is(y.at(0, 15), "1,1 3,0 2,1 1,0");
    is(y.tear(0, 1, -1), 15);
    is(y.at(0, 15), y.pose(0));
    fails(y, ARGUMENT, () -> y.tear(0, 1, 16));
    fails(y, ARGUMENT, () -> y.tear(0, 1, -2));
    fails(y, INDEX, () -> y.tear(0, 3, 16));
    fails(y, INDEX, () -> y.tear(0, -1, 0));
    fails(y, INDEX, () -> y.tear(1, 0, 0));
    fails(y, INDEX, () -> y.tear(2, 0, 16));
  }

  private static void exchangeUntwist() {
    promise = 15;
    Stringpuppet x = fresh();
    is(x.exchange(2, true), 1);
    is(x.exchange(2, false), 0);
    is(x.row(), "");
    is(x.exchange(2, false), 1);
    is(x.exchange(2, true), 0);
    for (int i = 0; i < 20; i++) {
      is(x.exchange(i % 3, false), i + 1);
    }
    is(x.exchange(0, true), -9);
    is(x.exchange(1, false), -9);
    is(x.house(1), 20);
    is(x.house(3), 2);
    // The last one is 1-: with 1+ both go, though the row is full.
    is(x.exchange(1, true), 19);
    is(x.exchange(0, true), 18);
    is(x.exchange(0, true), 19);
    fails(x, ARGUMENT, () -> x.exchange(3, true));
    fails(x, ARGUMENT, () -> x.exchange(-1, false));
    fails(x, ARGUMENT, () -> x.exchange(MOST, false));
    promise = 16;
    for (int i = 18; i >= 0; i--) {
      is(x.untwist(), i);
    }
    fails(x, STATE, x::untwist);
    x.exchange(0, true);
    x.exchange(1, false);
    is(x.untwist(), 1);
    is(x.row(), "0+");
  }

  private static void handThing() {
    promise = 17;
    Stringpuppet x = fresh();
    is(x.hand(0, 1), -9);
    is(x.hand(1, 0), -9);
    is(x.hand(0, 0), 0);
    is(x.hand(0, 2), 0);
    is(x.ofPuppet(0, 5), 2);
    is(x.ofPuppet(1, 5), 1);
    is(x.hand(1, 2), -9);
    is(x.hand(1, 0), 1);
    is(x.hand(0, 1), 2);
    is(x.house(3), 3);
    is(x.house(2), 4);
    fails(x, ARGUMENT, () -> x.hand(0, 3));
    fails(x, ARGUMENT, () -> x.hand(0, -1));
    fails(x, INDEX, () -> x.hand(2, 3));
    fails(x, INDEX, () -> x.hand(-1, 0));
    promise = 18;
    is(x.thing(0, 0), 1);
    is(x.thing(7, 5), 2);
    is(x.thing(5, 0), 3);
    is(x.thing(0, 5), 4);
    is(x.thing(7, 5), 3);
    is(x.house(0), 3);
    fails(x, ARGUMENT, () -> x.thing(8, 0));
    fails(x, ARGUMENT, () -> x.thing(-1, 0));
    fails(x, ARGUMENT, () -> x.thing(0, 6));
    fails(x, ARGUMENT, () -> x.thing(0, -1));
    Stringpuppet y = fresh();
    int count = 0;
    for (int place = 0; place < 48; place++) {
      count++;
      is(y.thing(place / 6, place % 6), count);
    }
    is(y.thing(3, 3), 47);
  }

  private static void read() {
    promise = 19;
    Stringpuppet x = fresh();
    x.key(0, 9);
    write(x, "1:0,1,2;15:9,8,7;");
    is(x.read(0), 2);
    is(x.paper(0), "1:0,1,2;15:9,8,7;");
    is(x.paper(1), "");
    is(x.house(5), 17);
    x.type(1);
    is(x.read(1), -9);
    is(x.read(0), -9);
    is(x.house(3), 2);
    is(x.paper(0), "1:0,1,2;15:9,8,7;");
    is(x.house(2), 2);
    x.wipe();
    is(x.read(0), 0);
    is(x.paper(0), "");
    is(x.house(2), 3);
    x.undo();
    is(x.paper(0), "1:0,1,2;15:9,8,7;");
    x.undo();
    is(x.paper(0), "9:0,0,0;");
    fails(x, INDEX, () -> x.read(2));
    fails(x, INDEX, () -> x.read(-1));
    x.type(12);
    fails(x, INDEX, () -> x.read(2));
    is(x.house(3), 2);
  }

  private static void slipAndSteps() {
    promise = 20;
    Stringpuppet x = fresh();
    for (int i = 0; i < 40; i++) {
      is(x.type(i % 13), i + 1);
    }
    is(x.slip(), "0123456789:,;0123456789:,;0123456789:,;0");
    fails(x, STATE, () -> x.type(0));
    fails(x, ARGUMENT, () -> x.type(13));
    fails(x, ARGUMENT, () -> x.type(-1));
    is(x.house(2), 0);
    promise = 21;
    is(x.wipe(), 40);
    is(x.wipe(), 0);
    is(x.slip(), "");
    is(x.house(5), 0);
    is(x.house(2), 0);
    undoing();
    promise = 23;
    is(x.knock(), 1);
    is(x.knock(), 2);
    is(x.knock(), 3);
    is(x.house(4), 3);
    is(x.house(2), 0);
  }

  private static void undoing() {
    promise = 22;
    Stringpuppet x = fresh();
    fails(x, STATE, x::undo);
    for (int i = 0; i < 12; i++) {
      x.cross(0, i % 8);
      is(x.house(2), Math.min(i + 1, 8));
    }
    for (int left = 7; left >= 0; left--) {
      is(x.undo(), left);
      is(x.ofPuppet(0, 2), (left + 3) % 8);
    }
    fails(x, STATE, x::undo);
    // Each call of the first two groups is a step, even one that changes nothing.
    Stringpuppet y = marionette();
    write(y, "3:1,2,3;");
    y.knock();
    Call[] steps = {() -> y.unjoint(0), () -> y.joint(0, 0, 4, 4), () -> y.weight(0, 0, 1), () -> y.cut(0, 0), () -> y.string(0, 0, 0, 9), () -> y.let(0, 0, 5),
        () -> y.pull(0, 0, 0), () -> y.cross(0, 2), () -> y.cross(0, 3),
        () -> y.tilt(0, 0), () -> y.tilt(0, 1), () -> y.mirror(1), () -> y.key(0, 3), () -> y.unkey(0, 3), () -> y.tear(0, 0, 2),
        () -> y.exchange(0, true), () -> y.exchange(0, false), () -> y.exchange(1, false), () -> y.untwist(), () -> y.hand(0, 0), () -> y.hand(1, 2),
        () -> y.thing(1, 1), () -> y.thing(1, 1), () -> y.read(1)};
    for (int i = 0; i < 8; i++) {
      y.cross(1, 5);
    }
    for (Call step : steps) {
      y.cross(1, 5);
      y.undo();
      long before = y.digest();
      is(y.house(2), 7);
      step.answer();
      is(y.house(2), 8);
      y.undo();
      is(y.digest(), before);
      step.answer();
    }
    // The row is as it was, though its places were used anew.
    Stringpuppet r = fresh();
    r.exchange(0, true);
    r.exchange(1, false);
    r.untwist();
    r.exchange(2, true);
    is(r.row(), "0+ 2+");
    r.undo();
    is(r.row(), "0+");
    r.undo();
    is(r.row(), "0+ 1-");
    // The slip, what was refused and knocks stay.
    Stringpuppet z = fresh();
    z.tilt(0, 1);
    z.hand(0, 1);
    z.type(3);
    z.knock();
    is(z.undo(), 0);
    is(z.slip(), "3");
    is(z.house(3), 1);
    is(z.house(4), 1);
  }

  private static void poses() {
    poseAtLets();
    placeHeightPoses();
    slackCarriesFalls();
    balance();
    reachPullsWay();
  }

  private static void poseAtLets() {
    promise = 24;
    Stringpuppet x = marionette();
    is(x.pose(0), "1,1 3,2 2,3 1,0");
    is(x.pose(1), "0,0");
    x.let(0, 0, 0);
    is(x.pose(0), "-");
    fails(x, INDEX, () -> x.pose(2));
    fails(x, INDEX, () -> x.pose(-1));
    // Of several with the least height the first by x of the joint 0, its y, then the others.
    Stringpuppet y = fresh();
    y.weight(0, 0, 0);
    y.joint(0, 0, 1, 0);
    is(y.pose(0), "0,0 0,1");
    y.weight(0, 1, 1);
    is(y.pose(0), "0,0 1,0");
    y.weight(0, 0, 1);
    is(y.pose(0), "0,0 1,0");
    y.joint(0, 0, 5, 0);
    is(y.pose(0), "0,0 1,0 1,2");
    y.weight(0, 2, 1);
    is(y.pose(0), "0,0 1,0 2,1");
    // Heavy things hang low.
    Stringpuppet z = fresh();
    z.joint(0, 0, 4, 9);
    z.string(0, 2, 0, 5);
    is(z.pose(0), "2,2 2,0");
    z.weight(0, 0, 0);
    is(z.pose(0), "2,2 2,0");
    z.string(0, 3, 1, 4);
    is(z.pose(0), "1,3 3,3");
    promise = 25;
    keys(z, 0, 0, 5, 7, 3, 1);
    z.cut(0, 1);
    is(z.at(0, 0), "2,2 2,0");
    is(z.at(0, 1), "0,2 0,0");
    is(z.at(0, 2), "2,4 2,2");
    is(z.at(0, 3), "-");
    is(z.at(0, 15), "-");
    z.tear(0, 0, 3);
    is(z.at(0, 2), "2,4 2,2");
    is(z.at(0, 3), "0,0 2,0");
    is(z.at(0, 15), "0,0 2,0");
    is(z.at(1, 15), "0,0");
    fails(z, ARGUMENT, () -> z.at(0, 16));
    fails(z, ARGUMENT, () -> z.at(0, -1));
    fails(z, INDEX, () -> z.at(2, 16));
    fails(z, INDEX, () -> z.at(-1, 0));
    promise = 26;
    Stringpuppet l = fresh();
    l.string(0, 0, 0, 4);
    l.string(0, 0, 0, 9);
    is(l.lets(0, 0), "4 9 0");
    is(l.lets(0, 15), "4 9 0");
    l.tear(0, 0, 0);
    is(l.lets(0, 15), "4 9 0");
    write(l, "2:9,0,4;5:0,9,4;12:0,9,5;");
    l.read(0);
    is(l.lets(0, 0), "9 0 4");
    is(l.lets(0, 2), "9 0 4");
    is(l.lets(0, 3), "6 3 4");
    is(l.lets(0, 4), "3 6 4");
    is(l.lets(0, 5), "0 9 4");
    is(l.lets(0, 11), "0 9 4");
    is(l.lets(0, 12), "0 9 5");
    is(l.lets(0, 15), "0 9 5");
    // 5 - 3 / 4 is rounded down, so is 5 + 3 / 4.
    write(l, "0:5,5,0;4:2,8,0;");
    l.read(0);
    is(l.lets(0, 1), "4 5 0");
    is(l.lets(0, 2), "3 6 0");
    is(l.lets(0, 3), "2 7 0");
    is(l.lets(1, 3), "0 0 0");
    fails(l, ARGUMENT, () -> l.lets(0, 16));
    fails(l, ARGUMENT, () -> l.lets(0, -1));
    fails(l, INDEX, () -> l.lets(2, 16));
    fails(l, INDEX, () -> l.lets(-1, 0));
  }

  private static void placeHeightPoses() {
    promise = 27;
    Stringpuppet x = marionette();
    int[] due = {1, 1, 3, 2, 2, 3, 1, 0};
    for (int joint = 0; joint < 4; joint++) {
      is(x.place(0, joint, true), due[2 * joint]);
      is(x.place(0, joint, false), due[2 * joint + 1]);
    }
    fails(x, INDEX, () -> x.place(0, 4, true));
    fails(x, INDEX, () -> x.place(0, -1, true));
    fails(x, INDEX, () -> x.place(1, 1, false));
    fails(x, INDEX, () -> x.place(2, 0, false));
    promise = 28;
    is(x.height(0), 5);
    is(x.height(1), 0);
    fails(x, INDEX, () -> x.height(2));
    fails(x, INDEX, () -> x.height(-1));
    promise = 29;
    Stringpuppet y = fresh();
    is(y.poses(0, false), 48);
    is(y.poses(0, true), 6);
    y.joint(0, 0, 1, 0);
    // 7 * 6 + 8 * 5 rods, each two ways; the told one lies along the floor from 0 to 0 or 1.
    is(y.poses(0, false), 164);
    is(y.pose(0), "0,0 0,1");
    is(y.poses(0, true), 10);
    y.weight(0, 1, 1);
    is(y.pose(0), "0,0 1,0");
    is(y.poses(0, true), 12);
    y.string(0, 2, 0, 2);
    is(y.poses(0, false), 3);
    is(y.pose(0), "2,5 2,4");
    is(y.poses(0, true), 1);
    y.let(0, 0, 0);
    is(y.poses(0, false), 0);
    is(y.poses(0, true), 0);
    fails(y, INDEX, () -> y.poses(2, false));
    fails(y, INDEX, () -> y.poses(-1, true));
    // Of a shadow of three places: as many as there are from 0 to 2 that touch both 0 and 2.
    Stringpuppet w = fresh();
    w.joint(0, 0, 4, 1);
    is(w.pose(0), "0,0 2,0");
    is(w.poses(0, true), 12);
    w.joint(0, 0, 1, 0);
    is(w.poses(0, true), 32);
    promise = 27;
    is(y.place(0, 0, true), -1);
    is(y.place(0, 1, false), -1);
    promise = 28;
    is(y.height(0), -1);
  }

  private static void slackCarriesFalls() {
    promise = 30;
    Stringpuppet x = fresh();
    is(x.slack(0), 0);
    x.string(0, 2, 0, 5);
    x.string(0, 2, 0, 5);
    x.string(0, 2, 0, 9);
    // Of two that do the same the first is slack, and the other one not any more.
    is(x.slack(0), 5);
    x.let(0, 1, 6);
    is(x.slack(0), 6);
    x.let(0, 1, 4);
    is(x.slack(0), 5);
    x.let(0, 2, 4);
    is(x.slack(0), 3);
    x.let(0, 2, 0);
    is(x.slack(0), 0);
    fails(x, INDEX, () -> x.slack(2));
    fails(x, INDEX, () -> x.slack(-1));
    promise = 31;
    is(x.carries(0, 0), -1);
    x.let(0, 2, 9);
    is(x.carries(0, 0), 0);
    is(x.carries(0, 1), 1);
    is(x.carries(0, 2), 0);
    x.weight(0, 0, 7);
    is(x.carries(0, 1), 7);
    fails(x, INDEX, () -> x.carries(0, 3));
    fails(x, INDEX, () -> x.carries(0, -1));
    fails(x, INDEX, () -> x.carries(1, 0));
    fails(x, INDEX, () -> x.carries(2, 0));
    promise = 33;
    is(x.falls(0, 0), 0);
    is(x.falls(0, 1), 1);
    x.let(0, 2, 0);
    is(x.falls(0, 0), -1);
    Stringpuppet y = marionette();
    is(y.pose(0), "1,1 3,2 2,3 1,0");
    is(y.falls(0, 1), 6);
    is(y.falls(0, 2), 0);
    is(y.carries(0, 0), 3);
    is(y.carries(0, 1), 4);
    fails(y, INDEX, () -> y.falls(0, 3));
    fails(y, INDEX, () -> y.falls(0, -1));
    fails(y, INDEX, () -> y.falls(1, 0));
    fails(y, INDEX, () -> y.falls(2, 0));
  }

  private static void balance() {
    promise = 32;
    Stringpuppet x = fresh();
    is(x.balance(0), "-");
    x.weight(0, 0, 0);
    is(x.balance(0), "");
    x.weight(0, 0, 6);
    x.string(0, 2, 0, 4);
    is(x.pose(0), "2,3");
    is(x.balance(0), "0:3/2");
    x.weight(0, 0, 8);
    is(x.balance(0), "0:2");
    x.let(0, 0, 0);
    is(x.balance(0), "-");
    x.weight(0, 0, 0);
    is(x.balance(0), "-");
    Stringpuppet y = fresh();
    y.weight(0, 0, 5);
    y.string(0, 1, 0, 5);
    y.string(0, 4, 0, 5);
    is(y.pose(0), "1,3");
    is(y.balance(0), "0:5/4");
    // Two strings from both sides: from 2,4 the pegs stand 1 to the left and 2 to the right, 3 up.
    y.let(0, 0, 4);
    y.let(0, 1, 4);
    is(y.pose(0), "2,4");
    is(y.balance(0), "0:10/9 1:5/9");
    y.weight(0, 0, 9);
    is(y.balance(0), "0:2 1:1");
    // One that does it alone goes ahead of two, whatever its number.
    y.string(0, 2, 0, 9);
    is(y.balance(0), "2:3");
    y.cross(0, 3);
    y.cut(0, 2);
    y.cut(0, 1);
    y.cut(0, 0);
    y.string(0, 0, 0, 9);
    y.string(0, 1, 0, 9);
    y.string(0, 4, 0, 4);
    is(y.pose(0), "5,3");
    is(y.balance(0), "2:9/4");
    fails(y, INDEX, () -> y.balance(2));
    fails(y, INDEX, () -> y.balance(-1));
    balanceOfPairs();
  }

  private static void balanceOfPairs() {
    // Pegs of one side alone do not balance.
    Stringpuppet x = fresh();
    x.joint(0, 0, 1, 1);
    x.cross(0, 7);
    x.string(0, 0, 0, 5);
    x.string(0, 1, 0, 5);
    is(x.pose(0), "3,3 3,2");
    is(x.balance(0), "-");
    // The first two of both sides: by the smaller number, then by the other one.
    Stringpuppet y = fresh();
    y.weight(0, 0, 9);
    y.string(0, 0, 0, 9);
    y.string(0, 1, 0, 4);
    y.string(0, 4, 0, 4);
    is(y.pose(0), "2,4");
    is(y.balance(0), "0:3/2 2:3/2");
    y.mirror(0);
    is(y.pose(0), "4,4");
    is(y.balance(0), "0:3/4 2:9/4");
    // A peg level with its joint: aside it pulls, up it does not.
    Stringpuppet z = fresh();
    z.tilt(0, 1);
    z.cross(0, 4);
    z.string(0, 0, 0, 1);
    z.string(0, 4, 0, 5);
    is(z.pose(0), "3,5");
    is(z.balance(0), "0:3/4 1:1/4");
    z.let(0, 1, 9);
    is(z.pose(0), "2,4");
    is(z.balance(0), "0:1");
    z.let(0, 0, 0);
    is(z.pose(0), "2,5");
    is(z.balance(0), "-");
    // Strings of two joints: a level one to the left, one that goes 1 up and 1 to the right.
    Stringpuppet t = fresh();
    t.weight(0, 0, 6);
    t.joint(0, 0, 5, 0);
    t.tilt(0, 1);
    t.cross(0, 3);
    t.string(0, 0, 0, 1);
    t.string(0, 0, 1, 2);
    t.string(0, 3, 0, 4);
    is(t.pose(0), "2,5 0,4");
    is(t.balance(0), "0:6 1:6");
  }

  private static void reachPullsWay() {
    promise = 34;
    Stringpuppet x = fresh();
    x.string(0, 2, 0, 4);
    // Lets 2 to 7 lead from the ceiling to the floor, 8 and 9 to 0,0.
    is(x.reach(0, 0, 0), 7);
    x.string(0, 2, 0, 5);
    is(x.reach(0, 0, 0), 4);
    is(x.pose(0), "2,3");
    x.let(0, 1, 1);
    is(x.reach(0, 0, 0), 0);
    fails(x, INDEX, () -> x.reach(0, 1, 0));
    fails(x, INDEX, () -> x.reach(0, 0, 2));
    fails(x, INDEX, () -> x.reach(0, 0, -1));
    fails(x, INDEX, () -> x.reach(0, -1, 0));
    fails(x, INDEX, () -> x.reach(2, 0, 0));
    promise = 35;
    is(x.pulls(0, 0, 0, 2, 5), -1);
    x.let(0, 1, 9);
    is(x.pulls(0, 0, 0, 2, 5), 2);
    is(x.pulls(0, 0, 0, 2, 3), 0);
    is(x.pulls(0, 0, 0, 2, 0), 3);
    is(x.pulls(0, 0, 0, 3, 3), -1);
    is(x.pulls(0, 0, 0, 5, 2), -1);
    fails(x, ARGUMENT, () -> x.pulls(0, 0, 0, 8, 0));
    fails(x, ARGUMENT, () -> x.pulls(0, 0, 0, -1, 0));
    fails(x, ARGUMENT, () -> x.pulls(0, 0, 0, 0, 6));
    fails(x, ARGUMENT, () -> x.pulls(0, 0, 0, 0, -1));
    fails(x, INDEX, () -> x.pulls(0, 1, 0, 8, 0));
    fails(x, INDEX, () -> x.pulls(0, 0, 2, 0, 6));
    fails(x, INDEX, () -> x.pulls(0, 0, -1, 0, 0));
    fails(x, INDEX, () -> x.pulls(2, 0, 0, 8, 0));
    promise = 36;
    is(x.way(0, 0, 2, 3), 0);
    is(x.way(0, 0, 7, 0), 8);
    is(x.way(0, 0, 0, 5), 4);
    x.thing(2, 3);
    is(x.way(0, 0, 2, 3), 0);
    is(x.way(0, 0, 2, 4), 1);
    x.thing(2, 4);
    is(x.way(0, 0, 2, 4), -1);
    is(x.way(0, 0, 2, 5), 4);
    x.thing(1, 3);
    x.thing(3, 3);
    is(x.way(0, 0, 2, 5), 8);
    x.thing(2, 2);
    is(x.way(0, 0, 2, 5), -1);
    is(x.way(0, 0, 2, 3), 0);
    fails(x, ARGUMENT, () -> x.way(0, 0, 8, 0));
    fails(x, ARGUMENT, () -> x.way(0, 0, 0, 6));
    fails(x, ARGUMENT, () -> x.way(0, 0, -1, 0));
    fails(x, ARGUMENT, () -> x.way(0, 0, 0, -1));
    fails(x, INDEX, () -> x.way(0, 1, 8, 0));
    fails(x, INDEX, () -> x.way(2, 0, 8, 0));
    x.let(0, 0, 1);
    is(x.way(0, 0, 2, 3), -1);
    mazes();
    shortestAndLongestLets();
  }

  private static void shortestAndLongestLets() {
    Stringpuppet x = fresh();
    x.cross(0, 4);
    x.tilt(0, 1);
    x.string(0, 0, 0, 3);
    promise = 34;
    is(x.reach(0, 0, 0), 7);
    promise = 35;
    is(x.pulls(0, 0, 0, 2, 5), 3);
    is(x.pulls(0, 0, 0, 0, 0), 3);
    x.tilt(0, -1);
    x.let(0, 0, 4);
    promise = 34;
    is(x.reach(0, 0, 0), 6);
    promise = 35;
    is(x.pulls(0, 0, 0, 2, 0), 5);
    is(x.pulls(0, 0, 0, 2, 5), 0);
  }

  private static void mazes() {
    // One long way up and down through all columns: each wall leaves one gap.
    Stringpuppet x = fresh();
    for (int column = 1; column < 8; column += 2) {
      for (int y = 0; y < 6; y++) {
        if (y != (column % 4 == 1 ? 5 : 0)) {
          x.thing(column, y);
        }
      }
    }
    is(x.way(0, 0, 6, 0), 26);
    is(x.way(0, 0, 7, 0), 27);
    is(x.way(0, 0, 7, 5), -1);
    // No step leads from the ceiling of a column to the floor of the next one.
    Stringpuppet y = fresh();
    is(y.way(0, 0, 1, 0), 1);
    is(y.way(0, 0, 0, 5), 5);
    y.thing(1, 5);
    y.thing(0, 4);
    is(y.way(0, 0, 0, 5), -1);
    y.thing(1, 5);
    is(y.way(0, 0, 0, 5), 7);
  }

  private static void freedom() {
    promise = 37;
    Stringpuppet x = fresh();
    for (int moment = 0; moment <= 14; moment++) {
      is(x.isFree(0, moment), true);
    }
    fails(x, ARGUMENT, () -> x.isFree(0, 15));
    fails(x, ARGUMENT, () -> x.isFree(0, -1));
    fails(x, INDEX, () -> x.isFree(2, 15));
    fails(x, INDEX, () -> x.isFree(-1, 0));
    // Without a pose at one of both it is not free.
    x.string(0, 2, 0, 7);
    keys(x, 0, 0, 7, 1, 7, 7);
    is(x.isFree(0, 0), false);
    is(x.isFree(0, 1), false);
    is(x.isFree(0, 2), true);
    // A joint that stays on a rod without it.
    Stringpuppet y = fresh();
    y.joint(0, 0, 4, 0);
    y.joint(0, 0, 1, 0);
    y.string(0, 4, 2, 9);
    is(y.pose(0), "0,0 0,2 0,1");
    is(y.isFree(0, 0), false);
    y.weight(0, 1, 1);
    is(y.pose(0), "0,0 2,0 0,1");
    is(y.isFree(0, 0), true);
    y.weight(0, 2, 1);
    is(y.pose(0), "0,0 2,0 1,0");
    is(y.isFree(0, 0), false);
    rodsThatMeet();
    stretches();
  }

  /** Free or not between the moments 0 and 1: first and second are the poses there. */
  private static void free(Stringpuppet x, String first, String second, boolean isFree) {
    is(x.at(0, 0), first);
    is(x.at(0, 1), second);
    is(x.isFree(0, 0), isFree);
  }

  private static void rodsThatMeet() {
    // Over cross at the first moment alone.
    Stringpuppet x = fresh();
    x.weight(0, 0, 2);
    x.joint(0, 0, 2, 1);
    x.joint(0, 0, 5, 1);
    x.joint(0, 1, 5, 0);
    x.string(0, 1, 2, 5);
    x.string(0, 3, 3, 7);
    x.key(0, 0);
    x.let(0, 0, 7);
    x.let(0, 1, 6);
    x.key(0, 1);
    free(x, "0,0 1,1 1,2 0,3", "0,0 1,1 2,1 0,3", false);
    // The same from behind.
    x.unkey(0, 0);
    x.unkey(0, 1);
    x.key(0, 0);
    x.let(0, 0, 5);
    x.let(0, 1, 7);
    x.key(0, 1);
    free(x, "0,0 1,1 2,1 0,3", "0,0 1,1 1,2 0,3", false);
    // One touches the other one at the second moment.
    Stringpuppet y = fresh();
    y.weight(0, 0, 2);
    y.joint(0, 0, 5, 2);
    y.joint(0, 0, 2, 0);
    y.joint(0, 2, 1, 0);
    y.string(0, 1, 1, 7);
    y.key(0, 0);
    y.let(0, 0, 5);
    y.key(0, 1);
    free(y, "0,0 2,1 1,1 0,1", "0,0 1,2 1,1 0,1", false);
    y.unkey(0, 1);
    free(y, "0,0 2,1 1,1 0,1", "0,0 2,1 1,1 0,1", true);
  }

  private static void stretches() {
    Stringpuppet x = fresh();
    x.weight(0, 0, 2);
    x.joint(0, 0, 2, 2);
    x.joint(0, 0, 2, 2);
    keysOfString(x, 4, 1, 5, 4);
    free(x, "3,1 4,2 2,0", "3,2 4,3 2,1", true);
    // The joint 2 comes to the place that an end of the rod had at the first moment.
    Stringpuppet y = fresh();
    y.weight(0, 0, 0);
    y.joint(0, 0, 2, 1);
    y.joint(0, 1, 1, 1);
    keysOfString(y, 0, 1, 6, 5);
    free(y, "1,0 0,1 0,0", "1,1 0,2 0,1", false);
    // It leaves the place that an end has at the second one.
    Stringpuppet z = fresh();
    z.joint(0, 0, 2, 1);
    z.joint(0, 1, 1, 1);
    keysOfString(z, 3, 0, 4, 5);
    free(z, "3,3 2,2 2,1", "3,2 2,1 2,0", false);
  }

  private static void keysOfString(Stringpuppet x, int peg, int joint, int first, int second) {
    x.string(0, peg, joint, first);
    x.key(0, 0);
    x.let(0, 0, second);
    x.key(0, 1);
  }

  private static void tablesAsked() {
    feetPeriodShadow();
    table();
    clash();
    rowStrand();
    paperFaultSlip();
  }

  private static void feetPeriodShadow() {
    promise = 38;
    Stringpuppet x = fresh();
    is(x.feet(0, 0, 0), -1);
    x.joint(0, 0, 1, 0);
    x.string(0, 2, 0, 7);
    is(x.pose(0), "2,0 1,0");
    keys(x, 0, 0, 7, 7, 6, 5);
    is(x.at(0, 2), "2,1 1,1");
    is(x.feet(0, 0, 0), 2);
    is(x.feet(0, 1, 1), 2);
    is(x.feet(0, 0, 1), 2);
    x.weight(0, 1, 1);
    is(x.at(0, 2), "2,1 2,0");
    is(x.feet(0, 0, 0), 2);
    is(x.feet(0, 0, 1), 3);
    is(x.feet(0, 1, 0), 3);
    x.tear(0, 0, 3);
    is(x.feet(0, 0, 1), -1);
    x.let(0, 0, 0);
    x.key(0, 1);
    is(x.feet(0, 0, 1), 1);
    x.let(0, 0, 5);
    x.key(0, 0);
    is(x.feet(0, 0, 1), 0);
    fails(x, INDEX, () -> x.feet(0, 2, 0));
    fails(x, INDEX, () -> x.feet(0, 0, 2));
    fails(x, INDEX, () -> x.feet(0, -1, 0));
    fails(x, INDEX, () -> x.feet(0, 0, -1));
    fails(x, INDEX, () -> x.feet(2, 0, 0));
    promise = 39;
    for (int n = 1; n <= 9; n++) {
      Stringpuppet y = fresh();
      y.string(1, 2, 0, 7);
      for (int moment = 0; moment < 16; moment++) {
        y.let(1, 0, moment % n == n - 1 ? 4 : 3);
        y.key(1, moment);
      }
      is(y.period(1), n <= 8 ? n : -1);
      is(y.period(0), 1);
    }
    Stringpuppet none = fresh();
    none.string(0, 2, 0, 0);
    is(none.period(0), 1);
    none.tear(0, 0, 15);
    is(none.period(0), -1);
    none.tear(0, 0, 8);
    is(none.period(0), -1);
    fails(none, INDEX, () -> none.period(2));
    fails(none, INDEX, () -> none.period(-1));
    promise = 40;
    Stringpuppet s = marionette();
    is(s.at(0, 3), "1,1 3,2 2,3 1,0");
    is(s.shadow(0, 3), 14);
    is(s.shadow(1, 3), 1);
    s.tear(0, 0, 4);
    is(s.shadow(0, 3), 14);
    s.tear(0, 1, 4);
    s.tear(0, 2, 4);
    is(s.at(0, 4), "0,1 2,0 1,1 0,0");
    is(s.shadow(0, 4), 7);
    Stringpuppet alone = fresh();
    alone.string(1, 2, 0, 6);
    is(alone.at(1, 0), "5,1");
    is(alone.shadow(1, 0), 32);
    s.let(0, 1, 0);
    is(s.shadow(0, 3), 0);
    fails(s, ARGUMENT, () -> s.shadow(0, 16));
    fails(s, ARGUMENT, () -> s.shadow(0, -1));
    fails(s, INDEX, () -> s.shadow(2, 16));
    fails(s, INDEX, () -> s.shadow(-1, 0));
  }

  private static void table() {
    promise = 41;
    Stringpuppet x = fresh();
    write(x, "0:5,3,0;4:3,6,9;8:1,9,9;");
    x.read(0);
    // Without strings no let counts.
    is(x.table(0, 0, 4), 0);
    x.string(0, 2, 0, 5);
    is(x.table(0, 0, 4), 2);
    is(x.table(0, 4, 0), 2);
    is(x.table(0, 0, 2), 1);
    is(x.table(0, 0, 0), 0);
    is(x.table(0, 0, 8), -1);
    is(x.table(0, 8, 0), -1);
    is(x.table(0, 8, 8), -1);
    is(x.table(0, 15, 0), -1);
    is(x.table(0, 0, 15), -1);
    x.unkey(0, 8);
    is(x.table(0, 15, 0), 2);
    is(x.table(0, 0, 15), 2);
    x.undo();
    x.string(0, 2, 0, 5);
    is(x.table(0, 0, 4), 5);
    is(x.table(0, 4, 0), 5);
    x.string(0, 2, 0, 9);
    is(x.table(0, 0, 4), -1);
    x.cut(0, 2);
    // Torn or not, it has to have a pose.
    x.tear(0, 0, 0);
    is(x.table(0, 0, 4), 5);
    is(x.table(0, 0, 8), -1);
    fails(x, ARGUMENT, () -> x.table(0, 16, 0));
    fails(x, ARGUMENT, () -> x.table(0, -1, 0));
    fails(x, ARGUMENT, () -> x.table(0, 0, 16));
    fails(x, ARGUMENT, () -> x.table(0, 0, -1));
    fails(x, INDEX, () -> x.table(2, 16, 0));
    fails(x, INDEX, () -> x.table(-1, 0, 0));
  }

  private static void clash() {
    promise = 42;
    Stringpuppet x = fresh();
    is(x.clash(), 0);
    x.string(0, 2, 0, 7);
    is(x.pose(0), "2,0");
    is(x.clash(), -1);
    x.joint(0, 0, 4, 1);
    is(x.pose(0), "2,0 0,0");
    is(x.clash(), 0);
    x.string(1, 2, 0, 7);
    is(x.clash(), -1);
    x.cross(1, 2);
    keys(x, 1, 0, 4, 4, 5, 6, 7);
    is(x.clash(), 4);
    x.let(0, 0, 5);
    is(x.pose(0), "2,2 2,0");
    is(x.clash(), 2);
    x.let(0, 0, 0);
    is(x.clash(), -1);
    x.tear(0, 0, 9);
    is(x.at(0, 9), "0,0 2,0");
    is(x.clash(), 9);
    x.tear(0, 0, 15);
    is(x.clash(), 15);
  }

  private static void rowStrand() {
    promise = 43;
    Stringpuppet x = fresh();
    is(x.row(), "");
    x.exchange(2, false);
    is(x.row(), "2-");
    x.exchange(0, true);
    x.exchange(1, true);
    is(x.row(), "2- 0+ 1+");
    promise = 44;
    int[] due = {1, 3, 0, 2};
    for (int place = 0; place < 4; place++) {
      is(x.strand(place), due[place]);
    }
    fails(x, INDEX, () -> x.strand(4));
    fails(x, INDEX, () -> x.strand(-1));
    x.untwist();
    is(x.row(), "2- 0+");
    int[] then = {1, 0, 3, 2};
    for (int place = 0; place < 4; place++) {
      is(x.strand(place), then[place]);
    }
  }

  private static void paperFaultSlip() {
    promise = 45;
    Stringpuppet x = fresh();
    is(x.paper(0), "");
    x.string(0, 0, 0, 9);
    x.string(0, 0, 0, 1);
    x.key(0, 10);
    x.key(0, 9);
    is(x.paper(0), "9:9,1,0;10:9,1,0;");
    is(x.paper(1), "");
    StringBuilder all = new StringBuilder();
    for (int moment = 0; moment < 16; moment++) {
      x.key(0, moment);
      all.append(moment).append(":9,1,0;");
    }
    is(x.paper(0), all.toString());
    fails(x, INDEX, () -> x.paper(2));
    fails(x, INDEX, () -> x.paper(-1));
    promise = 52;
    is(x.isSound(), true);
    promise = 46;
    String[] right = {"", "0:0,0,0;", "15:9,9,9;", "0:1,2,3;1:1,2,3;10:1,2,3;15:4,5,6;"};
    for (String text : right) {
      Stringpuppet y = written(text);
      is(y.fault(), -1);
    }
    String[] begun = {"0", "1", "10", "15", "7:", "1:", "7:1", "7:1,", "7:1,2", "7:1,2,", "7:1,2,3", "1:1,2,3;1", "1:1,2,3;15"};
    for (String text : begun) {
      Stringpuppet y = written(text);
      is(y.fault(), text.length());
    }
    String[] faulty = {":", ",", ";", "00", "01", "16", "19", "20", "99", "100", "151", "1,", "1;", "12,", "12;", "1::", "1:,", "1:;", "1:22", "1:2:", "1:2;", "1:2,,", "1:2,:",
        "1:2,;", "1:2,33", "1:2,3;;", "1:2,3;:", "1:2,3;,", "1:2,3,4,", "1:2,3,4:", "1:2,3,44", "1:1,2,3;1:", "2:1,2,3;1:", "12:1,2,3;11:", "12:1,2,3;12:", "0:1,2,3;0:",
        "1:2,3,"};
    for (String text : faulty) {
      Stringpuppet y = written(text);
      int place = text.equals("1:2,3;;") || text.equals("1:2,3;:") || text.equals("1:2,3;,") ? 5 : text.equals("1:2,3,") ? 6 : text.length() - 1;
      is(y.fault(), place);
      if (y.house(5) < 38) {
        // What stands behind the first fault does not count.
        y.type(12);
        y.type(3);
        is(y.fault(), text.equals("1:2,3,") ? 6 : place);
      }
    }
    promise = 47;
    write(x, ";;0:");
    is(x.slip(), ";;0:");
    x.wipe();
    is(x.slip(), "");
  }

  private static void whatThereIs() {
    promise = 48;
    Stringpuppet x = marionette();
    int[][] joints = {{-1, 0, 1, 1, 2}, {0, 5, 2, 0, 2}, {1, 2, 0, 2, 1}, {0, 1, 3, 4, 1}};
    for (int joint = 0; joint < 4; joint++) {
      for (int what = 0; what <= 4; what++) {
        is(x.ofJoint(0, joint, what), joints[joint][what]);
      }
    }
    x.cut(0, 1);
    x.string(0, 2, 0, 3);
    is(x.ofJoint(0, 0, 3), 5);
    is(x.ofJoint(0, 3, 3), 2);
    fails(x, ARGUMENT, () -> x.ofJoint(0, 0, 5));
    fails(x, ARGUMENT, () -> x.ofJoint(0, 0, -1));
    fails(x, INDEX, () -> x.ofJoint(0, 4, 5));
    fails(x, INDEX, () -> x.ofJoint(0, -1, 0));
    fails(x, INDEX, () -> x.ofJoint(1, 1, 0));
    fails(x, INDEX, () -> x.ofJoint(2, 0, 5));
    promise = 49;
    x.tear(0, 1, 11);
    x.tilt(0, 1);
    x.cross(0, 6);
    int[][] strings = {{1, 0, 6, -1, 5, 6}, {4, 3, 8, 11, 8, 9}, {2, 0, 3, -1, 6, 7}};
    for (int string = 0; string < 3; string++) {
      for (int what = 0; what <= 5; what++) {
        is(x.ofString(0, string, what), strings[string][what]);
      }
    }
    fails(x, ARGUMENT, () -> x.ofString(0, 0, 6));
    fails(x, ARGUMENT, () -> x.ofString(0, 0, -1));
    fails(x, INDEX, () -> x.ofString(0, 3, 6));
    fails(x, INDEX, () -> x.ofString(0, -1, 0));
    fails(x, INDEX, () -> x.ofString(1, 0, 0));
    fails(x, INDEX, () -> x.ofString(2, 0, 6));
    promise = 50;
    x.key(0, 1);
    x.key(0, 2);
    x.hand(0, 2);
    int[] facts = {4, 3, 6, 1, 2, 2, 6};
    for (int what = 0; what <= 6; what++) {
      is(x.ofPuppet(0, what), facts[what]);
    }
    fails(x, ARGUMENT, () -> x.ofPuppet(0, 7));
    fails(x, ARGUMENT, () -> x.ofPuppet(0, -1));
    fails(x, INDEX, () -> x.ofPuppet(2, 7));
    fails(x, INDEX, () -> x.ofPuppet(-1, 0));
    promise = 51;
    x.thing(1, 1);
    x.thing(1, 2);
    x.exchange(1, true);
    x.hand(0, 1);
    x.knock();
    x.knock();
    x.knock();
    write(x, "1:2,");
    int[] house = {2, 1, 8, 1, 3, 4};
    for (int what = 0; what <= 5; what++) {
      is(x.house(what), house[what]);
    }
    fails(x, ARGUMENT, () -> x.house(6));
    fails(x, ARGUMENT, () -> x.house(-1));
    promise = 52;
    is(x.isSound(), true);
    is(fresh().isSound(), true);
    promise = 53;
    digests();
  }

  private static void digests() {
    is(digestByCalls(fresh()), fresh().digest());
    Stringpuppet x = marionette();
    is(x.digest(), digestByCalls(x));
    x.tilt(0, 1);
    x.key(0, 3);
    x.pull(0, 1, 1);
    x.key(0, 12);
    x.tear(0, 0, 7);
    x.joint(1, 0, 5, 3);
    x.string(1, 4, 1, 6);
    x.exchange(0, true);
    x.exchange(2, false);
    x.thing(3, 3);
    x.knock();
    x.type(4);
    is(x.digest(), digestByCalls(x));
    x.let(0, 0, 0);
    is(x.digest(), digestByCalls(x));
  }

  private static long digestByCalls(Stringpuppet x) {
    long d = 6707;
    for (int what = 0; what <= 5; what++) {
      d = 31 * d + x.house(what);
    }
    for (int p = 0; p <= 1; p++) {
      for (int what = 0; what <= 6; what++) {
        d = 31 * d + x.ofPuppet(p, what);
      }
      for (int joint = 0; joint < x.ofPuppet(p, 0); joint++) {
        for (int what = 0; what <= 4; what++) {
          d = 31 * d + x.ofJoint(p, joint, what);
        }
        d = 31 * d + x.place(p, joint, true);
        d = 31 * d + x.place(p, joint, false);
      }
      for (int string = 0; string < x.ofPuppet(p, 1); string++) {
        for (int what = 0; what <= 5; what++) {
          d = 31 * d + x.ofString(p, string, what);
        }
        d = 31 * d + x.carries(p, string);
        d = 31 * d + x.falls(p, string);
      }
      d = 31 * d + x.height(p);
      d = 31 * d + x.slack(p);
      d = 31 * d + x.poses(p, false);
      d = 31 * d + x.poses(p, true);
      d = 31 * d + x.balance(p).length();
      d = 31 * d + x.shadow(p, 0);
      d = 31 * d + x.shadow(p, 7);
      d = 31 * d + x.shadow(p, 15);
      d = 31 * d + x.period(p);
      d = 31 * d + x.paper(p).length();
    }
    d = 31 * d + x.clash();
    for (int place = 0; place < 4; place++) {
      d = 31 * d + x.strand(place);
    }
    d = 31 * d + x.fault();
    return 31 * d + (x.isSound() ? 1 : 0);
  }
}
