import java.util.ArrayDeque;
import java.util.ArrayList;
import java.util.Arrays;
import java.util.HashMap;
import java.util.List;
import java.util.Map;
import java.util.Objects;
import java.util.Random;
import java.util.Set;
import java.util.TreeMap;
import java.util.TreeSet;

/** Runs of random calls (always the same ones), each answer held against that of a plain model that looks at every pose. */
public final class RandomRuns {
  private static final int RUNS = 260;
  private static final int CALLS = 150;

  public static void main(String[] args) throws Exception {
    int wrong = 0;
    for (int run = 0; run < RUNS && wrong < 10; run++) {
      if (!isRunRight(run)) {
        wrong++;
      }
    }
    System.out.println(wrong == 0 ? "all random runs answer as the model does" : wrong + " random runs do not answer as the model does");
    if (wrong != 0) {
      System.exit(1);
    }
  }

  private static boolean isRunRight(int run) {
    Random random = new Random(run);
    Stringpuppet puppet = new Stringpuppet();
    Model model = new Model();
    List<String> told = new ArrayList<>();
    // Some runs build alone, some ask alone of what stands after a while, some make many wrong calls.
    int wild = run % 4 == 3 ? 4 : 40;
    for (int i = 0; i < CALLS; i++) {
      String call = i == CALLS - 1 ? "digest" : pick(random, run, i);
      int[] a = new int[5];
      for (int k = 0; k < 5; k++) {
        a[k] = argument(random, call, k, a[0], model, wild);
      }
      Object got = answer(puppet, call, a);
      Object want = modelAnswer(model, call, a);
      told.add(call + Arrays.toString(a) + " -> " + got);
      if (!Objects.equals(got, want)) {
        System.out.println("run " + run + ": " + told.subList(Math.max(0, told.size() - 60), told.size()));
        System.out.println("  the last call answered " + got + ", due is " + want);
        return false;
      }
    }
    return true;
  }

  private static final String[] BUILDING = {"joint", "joint", "string", "string", "string", "let", "pull", "cross", "tilt", "weight", "key", "key"};
  private static final String[] CHANGING = {"joint", "joint", "unjoint", "weight", "string", "string", "string", "cut", "let", "let", "let", "pull", "pull",
      "cross", "tilt", "mirror", "key", "key", "key", "key", "unkey", "tear", "exchange", "exchange", "exchange", "untwist", "hand", "thing", "thing", "read",
      "type", "type", "type", "sign", "sign", "wipe", "undo", "knock"};
  private static final String[] ASKING = {"pose", "at", "lets", "place", "height", "poses", "slack", "carries", "balance", "falls", "reach", "pulls", "way",
      "isFree", "isFree", "feet", "period", "shadow", "table", "clash", "row", "strand", "paper", "fault", "slip", "ofJoint", "ofString", "ofPuppet", "house"};

  private static String pick(Random random, int run, int i) {
    if (i < 14) {
      return BUILDING[random.nextInt(BUILDING.length)];
    }
    if (run % 5 == 1) {
      String[] twisting = {"exchange", "exchange", "exchange", "exchange", "untwist", "row", "strand", "undo", "house", "thing", "way", "hand"};
      return twisting[random.nextInt(twisting.length)];
    }
    if (run % 5 == 2) {
      String[] writing = {"sign", "sign", "sign", "sign", "sign", "sign", "sign", "sign", "type", "fault", "slip", "read", "paper", "lets", "undo", "key"};
      return random.nextInt(40) == 0 ? "wipe" : writing[random.nextInt(writing.length)];
    }
    if (random.nextInt(120) == 0) {
      return random.nextBoolean() ? "digest" : "isSound";
    }
    return random.nextInt(100) < 45 ? CHANGING[random.nextInt(CHANGING.length)] : ASKING[random.nextInt(ASKING.length)];
  }

  /** What an argument may be: its range is told by the call and the argument's place, a wild one is anything. */
  private static int argument(Random random, String call, int k, int first, Model model, int wild) {
    if (random.nextInt(wild) == 0) {
      int[] odd = {-1, -2, -9, -10, 2, 3, 4, 5, 6, 8, 9, 10, 13, 16, 40, Integer.MIN_VALUE, Integer.MAX_VALUE, 1 << 20};
      return odd[random.nextInt(odd.length)];
    }
    Doll doll = model.s.p[first == 1 ? 1 : 0];
    int joints = doll.joints.size();
    int strings = Math.max(1, doll.strings.size());
    int[] squares = {1, 2, 4, 5};
    switch (call + k) {
      case "joint1": case "weight1": case "place1": case "reach1": case "pulls1": case "way1": case "feet1": case "feet2": case "ofJoint1": case "string2":
        return random.nextInt(joints);
      case "joint2":
        return squares[random.nextInt(4)];
      case "joint3": case "weight2":
        return random.nextInt(3) == 0 ? random.nextInt(10) : random.nextInt(3);
      case "string1":
        return random.nextInt(5);
      case "string3": case "let2":
        return random.nextInt(8) == 0 ? random.nextInt(10) : 3 + random.nextInt(6);
      case "cut1": case "let1": case "pull1": case "tear1": case "carries1": case "falls1": case "reach2": case "pulls2": case "ofString1":
        return random.nextInt(strings);
      case "pull2":
        return random.nextInt(7) - 3;
      case "cross1": case "thing0": case "pulls3": case "way2":
        return random.nextInt(8);
      case "thing1": case "pulls4": case "way3": case "ofString2": case "house0":
        return random.nextInt(6);
      case "tilt1":
        return random.nextInt(3) - 1;
      case "tear2":
        return random.nextInt(17) - 1;
      case "exchange0": case "hand1":
        return random.nextInt(3);
      case "type0":
        return random.nextInt(13);
      case "sign0":
        return model.signThatStands(random);
      case "key1": case "unkey1": case "at1": case "lets1": case "shadow1": case "table1": case "table2": case "isFree1":
        return random.nextInt(16);
      case "strand0":
        return random.nextInt(4);
      case "ofJoint2":
        return random.nextInt(5);
      case "ofPuppet1":
        return random.nextInt(7);
      default:
        return random.nextInt(2);
    }
  }

  private interface Call {
    Object answer();
  }

  private static Object tell(Call call) {
    try {
      return call.answer();
    } catch (RuntimeException e) {
      return e.getClass().getName();
    }
  }

  private static Object answer(Stringpuppet x, String call, int[] a) {
    return tell(() -> answerOf(x, call, a));
  }

  private static Object answerOf(Stringpuppet x, String call, int[] a) {
    switch (call) {
      case "joint": return (long) x.joint(a[0], a[1], a[2], a[3]);
      case "unjoint": return (long) x.unjoint(a[0]);
      case "weight": return (long) x.weight(a[0], a[1], a[2]);
      case "string": return (long) x.string(a[0], a[1], a[2], a[3]);
      case "cut": return (long) x.cut(a[0], a[1]);
      case "let": return (long) x.let(a[0], a[1], a[2]);
      case "pull": return (long) x.pull(a[0], a[1], a[2]);
      case "cross": return (long) x.cross(a[0], a[1]);
      case "tilt": return (long) x.tilt(a[0], a[1]);
      case "mirror": return (long) x.mirror(a[0]);
      case "key": return (long) x.key(a[0], a[1]);
      case "unkey": return (long) x.unkey(a[0], a[1]);
      case "tear": return (long) x.tear(a[0], a[1], a[2]);
      case "exchange": return (long) x.exchange(a[0], a[1] % 2 == 1);
      case "untwist": return (long) x.untwist();
      case "hand": return (long) x.hand(a[0], a[1]);
      case "thing": return (long) x.thing(a[0], a[1]);
      case "read": return (long) x.read(a[0]);
      case "type": case "sign": return (long) x.type(a[0]);
      case "wipe": return (long) x.wipe();
      case "undo": return (long) x.undo();
      case "knock": return (long) x.knock();
      case "pose": return x.pose(a[0]);
      case "at": return x.at(a[0], a[1]);
      case "lets": return x.lets(a[0], a[1]);
      case "place": return (long) x.place(a[0], a[1], a[2] % 2 == 1);
      case "height": return (long) x.height(a[0]);
      case "poses": return (long) x.poses(a[0], a[1] % 2 == 1);
      case "slack": return (long) x.slack(a[0]);
      case "carries": return (long) x.carries(a[0], a[1]);
      case "balance": return x.balance(a[0]);
      case "falls": return (long) x.falls(a[0], a[1]);
      case "reach": return (long) x.reach(a[0], a[1], a[2]);
      case "pulls": return (long) x.pulls(a[0], a[1], a[2], a[3], a[4]);
      case "way": return (long) x.way(a[0], a[1], a[2], a[3]);
      case "isFree": return x.isFree(a[0], a[1]) ? 1L : 0L;
      case "feet": return (long) x.feet(a[0], a[1], a[2]);
      case "period": return (long) x.period(a[0]);
      case "shadow": return (long) x.shadow(a[0], a[1]);
      case "table": return (long) x.table(a[0], a[1], a[2]);
      case "clash": return (long) x.clash();
      case "row": return x.row();
      case "strand": return (long) x.strand(a[0]);
      case "paper": return x.paper(a[0]);
      case "fault": return (long) x.fault();
      case "slip": return x.slip();
      case "ofJoint": return (long) x.ofJoint(a[0], a[1], a[2]);
      case "ofString": return (long) x.ofString(a[0], a[1], a[2]);
      case "ofPuppet": return (long) x.ofPuppet(a[0], a[1]);
      case "house": return (long) x.house(a[0]);
      case "isSound": return x.isSound() ? 1L : 0L;
      case "digest": return x.digest();
      default: throw new IllegalStateException(call);
    }
  }

  private static Object modelAnswer(Model m, String call, int[] a) {
    return tell(() -> modelAnswerOf(m, call, a));
  }

  private static Object modelAnswerOf(Model m, String call, int[] a) {
    switch (call) {
      case "joint": return m.joint(a[0], a[1], a[2], a[3]);
      case "unjoint": return m.unjoint(a[0]);
      case "weight": return m.weight(a[0], a[1], a[2]);
      case "string": return m.string(a[0], a[1], a[2], a[3]);
      case "cut": return m.cut(a[0], a[1]);
      case "let": return m.let(a[0], a[1], a[2]);
      case "pull": return m.pull(a[0], a[1], a[2]);
      case "cross": return m.cross(a[0], a[1]);
      case "tilt": return m.tilt(a[0], a[1]);
      case "mirror": return m.mirror(a[0]);
      case "key": return m.key(a[0], a[1]);
      case "unkey": return m.unkey(a[0], a[1]);
      case "tear": return m.tear(a[0], a[1], a[2]);
      case "exchange": return m.exchange(a[0], a[1] % 2 == 1);
      case "untwist": return m.untwist();
      case "hand": return m.hand(a[0], a[1]);
      case "thing": return m.thing(a[0], a[1]);
      case "read": return m.read(a[0]);
      case "type": case "sign": return m.type(a[0]);
      case "wipe": return m.wipe();
      case "undo": return m.undo();
      case "knock": return m.knock();
      case "pose": return m.pose(a[0]);
      case "at": return m.at(a[0], a[1]);
      case "lets": return m.lets(a[0], a[1]);
      case "place": return m.place(a[0], a[1], a[2] % 2 == 1);
      case "height": return m.height(a[0]);
      case "poses": return m.poses(a[0], a[1] % 2 == 1);
      case "slack": return m.slack(a[0]);
      case "carries": return m.carries(a[0], a[1]);
      case "balance": return m.balance(a[0]);
      case "falls": return m.falls(a[0], a[1]);
      case "reach": return m.reach(a[0], a[1], a[2]);
      case "pulls": return m.pulls(a[0], a[1], a[2], a[3], a[4]);
      case "way": return m.way(a[0], a[1], a[2], a[3]);
      case "isFree": return m.isFree(a[0], a[1]);
      case "feet": return m.feet(a[0], a[1], a[2]);
      case "period": return m.period(a[0]);
      case "shadow": return m.shadow(a[0], a[1]);
      case "table": return m.table(a[0], a[1], a[2]);
      case "clash": return m.clash();
      case "row": return m.row();
      case "strand": return m.strand(a[0]);
      case "paper": return m.paper(a[0]);
      case "fault": return m.fault();
      case "slip": return m.slip();
      case "ofJoint": return m.ofJoint(a[0], a[1], a[2]);
      case "ofString": return m.ofString(a[0], a[1], a[2]);
      case "ofPuppet": return m.ofPuppet(a[0], a[1]);
      case "house": return m.house(a[0]);
      case "isSound": return 1L;
      case "digest": return m.digest();
      default: throw new IllegalStateException(call);
    }
  }

  private static final class Joint {
    int parent, square, weight;
  }

  private static final class Cord {
    int peg, joint, let, tear = -1;
  }

  private static final class Doll {
    List<Joint> joints = new ArrayList<>();
    List<Cord> strings = new ArrayList<>();
    TreeMap<Integer, int[]> keys = new TreeMap<>();
    int x, tilt, player;

    Doll copy() {
      Doll d = new Doll();
      for (Joint j : joints) {
        Joint c = new Joint();
        c.parent = j.parent;
        c.square = j.square;
        c.weight = j.weight;
        d.joints.add(c);
      }
      for (Cord s : strings) {
        Cord c = new Cord();
        c.peg = s.peg;
        c.joint = s.joint;
        c.let = s.let;
        c.tear = s.tear;
        d.strings.add(c);
      }
      for (Map.Entry<Integer, int[]> e : keys.entrySet()) {
        d.keys.put(e.getKey(), e.getValue().clone());
      }
      d.x = x;
      d.tilt = tilt;
      d.player = player;
      return d;
    }

    int[] pegAt(int string) {
      int k = strings.get(string).peg;
      return new int[] {x + k - 2, 7 + tilt * (k - 2)};
    }

    int[] letsNow() {
      int[] lets = new int[3];
      for (int i = 0; i < strings.size(); i++) {
        lets[i] = strings.get(i).let;
      }
      return lets;
    }

    int[] letsAt(int moment) {
      if (keys.isEmpty()) {
        return letsNow();
      }
      Map.Entry<Integer, int[]> a = keys.floorEntry(moment);
      Map.Entry<Integer, int[]> b = keys.ceilingEntry(moment);
      if (a == null) {
        return b.getValue().clone();
      }
      if (b == null || a.getKey().equals(b.getKey())) {
        return a.getValue().clone();
      }
      int[] lets = new int[3];
      for (int i = 0; i < 3; i++) {
        double part = (b.getValue()[i] - a.getValue()[i]) * (double) (moment - a.getKey()) / (b.getKey() - a.getKey());
        lets[i] = a.getValue()[i] + (int) Math.floor(part + 1e-9);
      }
      return lets;
    }

    /** All poses, x and y joint by joint, in the order in which they stand. */
    List<int[]> all(int[] lets, Set<Integer> cut) {
      List<int[]> found = new ArrayList<>();
      grow(new int[2 * joints.size()], 0, lets, cut, found);
      return found;
    }

    private void grow(int[] pose, int joint, int[] lets, Set<Integer> cut, List<int[]> found) {
      if (joint == joints.size()) {
        found.add(pose.clone());
        return;
      }
      for (int px = 0; px < 8; px++) {
        for (int py = 0; py < 6; py++) {
          boolean isRight = true;
          if (joint > 0) {
            int ex = pose[2 * joints.get(joint).parent] - px;
            int ey = pose[2 * joints.get(joint).parent + 1] - py;
            isRight = ex * ex + ey * ey == joints.get(joint).square;
          }
          for (int i = 0; i < strings.size() && isRight; i++) {
            if (strings.get(i).joint == joint && !cut.contains(i)) {
              int ex = pegAt(i)[0] - px;
              int ey = pegAt(i)[1] - py;
              isRight = ex * ex + ey * ey <= lets[i] * lets[i];
            }
          }
          if (isRight) {
            pose[2 * joint] = px;
            pose[2 * joint + 1] = py;
            grow(pose, joint + 1, lets, cut, found);
          }
        }
      }
    }

    int heightOf(int[] pose) {
      int height = 0;
      for (int i = 0; i < joints.size(); i++) {
        height += joints.get(i).weight * pose[2 * i + 1];
      }
      return height;
    }

    int[] told(int[] lets, Set<Integer> cut) {
      int[] best = null;
      for (int[] pose : all(lets, cut)) {
        if (best == null || heightOf(pose) < heightOf(best)) {
          best = pose;
        }
      }
      return best;
    }

    int[] told() {
      return told(letsNow(), Set.of());
    }

    int[] toldAt(int moment) {
      Set<Integer> torn = new TreeSet<>();
      for (int i = 0; i < strings.size(); i++) {
        if (strings.get(i).tear >= 0 && moment >= strings.get(i).tear) {
          torn.add(i);
        }
      }
      return told(letsAt(moment), torn);
    }

    long shadowOf(int[] pose) {
      if (pose == null) {
        return 0;
      }
      TreeSet<Integer> dark = new TreeSet<>();
      dark.add(pose[0]);
      for (int i = 1; i < joints.size(); i++) {
        int a = pose[2 * i];
        int b = pose[2 * joints.get(i).parent];
        for (int q = 0; q < 8; q++) {
          if (q >= a && q <= b || q >= b && q <= a) {
            dark.add(q);
          }
        }
      }
      long sum = 0;
      for (int q : dark) {
        sum += 1L << q;
      }
      return sum;
    }
  }

  private static final class Stage {
    Doll[] p = {new Doll(), new Doll()};
    List<String> row = new ArrayList<>();
    Set<List<Integer>> things = new java.util.HashSet<>();

    Stage copy() {
      Stage c = new Stage();
      c.p = new Doll[] {p[0].copy(), p[1].copy()};
      c.row = new ArrayList<>(row);
      c.things = new java.util.HashSet<>(things);
      return c;
    }
  }

  /** The document, read plainly. */
  private static final class Model {
    Stage s = new Stage();
    ArrayDeque<Stage> past = new ArrayDeque<>();
    String slip = "";
    long refused, knocks;

    Model() {
      for (int i = 0; i < 2; i++) {
        Joint j = new Joint();
        j.parent = -1;
        j.weight = 1;
        s.p[i].joints.add(j);
        s.p[i].x = i == 0 ? 2 : 5;
        s.p[i].player = i;
      }
    }

    Doll doll(int p) {
      number(p, 2);
      return s.p[p];
    }

    static void number(int k, int n) {
      if (k < 0 || k >= n) {
        throw new IndexOutOfBoundsException();
      }
    }

    static void between(int k, int a, int b) {
      if (k < a || k > b) {
        throw new IllegalArgumentException();
      }
    }

    void step() {
      past.addLast(s.copy());
      if (past.size() > 8) {
        past.removeFirst();
      }
    }

    long refuse() {
      refused++;
      return -9;
    }

    Cord cord(int p, int string) {
      number(string, doll(p).strings.size());
      return doll(p).strings.get(string);
    }

    Joint jointOf(int p, int joint) {
      number(joint, doll(p).joints.size());
      return doll(p).joints.get(joint);
    }

    long joint(int p, int parent, int square, int weight) {
      jointOf(p, parent);
      if (!Arrays.asList(1, 2, 4, 5).contains(square)) {
        throw new IllegalArgumentException();
      }
      between(weight, 0, 9);
      if (doll(p).joints.size() == 4) {
        throw new IllegalStateException();
      }
      step();
      Joint j = new Joint();
      j.parent = parent;
      j.square = square;
      j.weight = weight;
      doll(p).joints.add(j);
      return doll(p).joints.size() - 1;
    }

    long unjoint(int p) {
      if (doll(p).joints.size() == 1) {
        throw new IllegalStateException();
      }
      step();
      int last = doll(p).joints.size() - 1;
      doll(p).joints.remove(last);
      doll(p).strings.removeIf(c -> c.joint == last);
      return last;
    }

    long weight(int p, int joint, int weight) {
      jointOf(p, joint);
      between(weight, 0, 9);
      step();
      long before = jointOf(p, joint).weight;
      jointOf(p, joint).weight = weight;
      return before;
    }

    long string(int p, int peg, int joint, int let) {
      doll(p);
      number(peg, 5);
      jointOf(p, joint);
      between(let, 0, 9);
      if (doll(p).strings.size() == 3) {
        throw new IllegalStateException();
      }
      step();
      Cord c = new Cord();
      c.peg = peg;
      c.joint = joint;
      c.let = let;
      doll(p).strings.add(c);
      return doll(p).strings.size() - 1;
    }

    long cut(int p, int string) {
      cord(p, string);
      step();
      doll(p).strings.remove(string);
      return doll(p).strings.size();
    }

    long let(int p, int string, int let) {
      cord(p, string);
      between(let, 0, 9);
      step();
      long before = cord(p, string).let;
      cord(p, string).let = let;
      return before;
    }

    long pull(int p, int string, int by) {
      Cord c = cord(p, string);
      between(by, -9, 9);
      int let = c.let - by;
      if (let < 0 || let > 9) {
        return refuse();
      }
      int before = c.let;
      boolean was = doll(p).told() != null;
      c.let = let;
      boolean is = doll(p).told() != null;
      c.let = before;
      if (was && !is) {
        return refuse();
      }
      step();
      cord(p, string).let = let;
      return let;
    }

    long cross(int p, int x) {
      doll(p);
      between(x, 0, 7);
      step();
      long before = doll(p).x;
      doll(p).x = x;
      return before;
    }

    long tilt(int p, int tilt) {
      doll(p);
      between(tilt, -1, 1);
      step();
      long before = doll(p).tilt;
      doll(p).tilt = tilt;
      return before;
    }

    long mirror(int p) {
      doll(p);
      step();
      Doll d = doll(p);
      d.x = 7 - d.x;
      d.tilt = -d.tilt;
      for (Cord c : d.strings) {
        c.peg = 4 - c.peg;
      }
      return d.x;
    }

    long key(int p, int moment) {
      doll(p);
      between(moment, 0, 15);
      step();
      doll(p).keys.put(moment, doll(p).letsNow());
      return doll(p).keys.size();
    }

    long unkey(int p, int moment) {
      doll(p);
      between(moment, 0, 15);
      if (!doll(p).keys.containsKey(moment)) {
        throw new IllegalStateException();
      }
      step();
      doll(p).keys.remove(moment);
      return doll(p).keys.size();
    }

    long tear(int p, int string, int moment) {
      cord(p, string);
      between(moment, -1, 15);
      step();
      long before = cord(p, string).tear;
      cord(p, string).tear = moment;
      return before;
    }

    long exchange(int k, boolean isOver) {
      between(k, 0, 2);
      String last = s.row.isEmpty() ? "" : s.row.get(s.row.size() - 1);
      if (last.equals(k + (isOver ? "-" : "+"))) {
        step();
        s.row.remove(s.row.size() - 1);
        return s.row.size();
      }
      if (s.row.size() == 20) {
        return refuse();
      }
      step();
      s.row.add(k + (isOver ? "+" : "-"));
      return s.row.size();
    }

    long untwist() {
      if (s.row.isEmpty()) {
        throw new IllegalStateException();
      }
      step();
      s.row.remove(s.row.size() - 1);
      return s.row.size();
    }

    long hand(int p, int player) {
      doll(p);
      between(player, 0, 2);
      if (s.p[1 - p].player == player) {
        return refuse();
      }
      step();
      long before = doll(p).player;
      doll(p).player = player;
      return before;
    }

    long thing(int x, int y) {
      between(x, 0, 7);
      between(y, 0, 5);
      step();
      List<Integer> place = List.of(x, y);
      if (!s.things.remove(place)) {
        s.things.add(place);
      }
      return s.things.size();
    }

    long read(int p) {
      doll(p);
      if (fault() != -1) {
        return refuse();
      }
      step();
      doll(p).keys = new TreeMap<>();
      for (String key : slip.split(";")) {
        if (!key.isEmpty()) {
          String[] halves = key.split(":");
          String[] lets = halves[1].split(",");
          doll(p).keys.put(Integer.parseInt(halves[0]), new int[] {Integer.parseInt(lets[0]), Integer.parseInt(lets[1]), Integer.parseInt(lets[2])});
        }
      }
      return doll(p).keys.size();
    }

    static char signOf(int sign) {
      return "0123456789:,;".charAt(sign);
    }

    /** A sign for the slip, most often one that can stand there. */
    int signThatStands(Random random) {
      int first = random.nextInt(13);
      boolean isBad = random.nextInt(60) == 0;
      for (int i = 0; i < 13 && !isBad; i++) {
        // Small digits first, so that moments can rise for long.
        int sign = i < 4 && random.nextInt(3) > 0 ? random.nextInt(4) : (first + i) % 13;
        if (canBegin(slip + signOf(sign))) {
          return sign;
        }
      }
      return first;
    }

    long type(int sign) {
      between(sign, 0, 12);
      if (slip.length() == 40) {
        throw new IllegalStateException();
      }
      slip += signOf(sign);
      return slip.length();
    }

    long wipe() {
      long before = slip.length();
      slip = "";
      return before;
    }

    long undo() {
      if (past.isEmpty()) {
        throw new IllegalStateException();
      }
      s = past.removeLast();
      return past.size();
    }

    long knock() {
      return ++knocks;
    }

    static String text(int[] pose) {
      if (pose == null) {
        return "-";
      }
      StringBuilder b = new StringBuilder();
      for (int i = 0; i < pose.length; i += 2) {
        b.append(i == 0 ? "" : " ").append(pose[i]).append(",").append(pose[i + 1]);
      }
      return b.toString();
    }

    String pose(int p) {
      return text(doll(p).told());
    }

    String at(int p, int moment) {
      doll(p);
      between(moment, 0, 15);
      return text(doll(p).toldAt(moment));
    }

    String lets(int p, int moment) {
      doll(p);
      between(moment, 0, 15);
      int[] lets = doll(p).letsAt(moment);
      return lets[0] + " " + lets[1] + " " + lets[2];
    }

    long place(int p, int joint, boolean isX) {
      jointOf(p, joint);
      int[] pose = doll(p).told();
      return pose == null ? -1 : pose[2 * joint + (isX ? 0 : 1)];
    }

    long height(int p) {
      int[] pose = doll(p).told();
      return pose == null ? -1 : doll(p).heightOf(pose);
    }

    long poses(int p, boolean isShadow) {
      Doll d = doll(p);
      int[] told = d.told();
      long count = 0;
      for (int[] pose : d.all(d.letsNow(), Set.of())) {
        if (!isShadow || d.shadowOf(pose) == d.shadowOf(told)) {
          count++;
        }
      }
      return count;
    }

    long slack(int p) {
      Doll d = doll(p);
      int[] told = d.told();
      Set<Integer> slack = new TreeSet<>();
      long sum = 0;
      for (int i = 0; i < d.strings.size() && told != null; i++) {
        Set<Integer> cut = new TreeSet<>(slack);
        cut.add(i);
        if (Arrays.equals(told, d.told(d.letsNow(), cut))) {
          slack = cut;
          sum += 1L << i;
        }
      }
      return sum;
    }

    long carries(int p, int string) {
      cord(p, string);
      Doll d = doll(p);
      int[] told = d.told();
      return told == null ? -1 : d.heightOf(told) - d.heightOf(d.told(d.letsNow(), Set.of(string)));
    }

    String balance(int p) {
      Doll d = doll(p);
      int[] told = d.told();
      if (told == null) {
        return "-";
      }
      int sum = 0;
      for (Joint j : d.joints) {
        sum += j.weight;
      }
      if (sum == 0) {
        return "";
      }
      int n = d.strings.size();
      int[] dx = new int[n];
      int[] dy = new int[n];
      for (int i = 0; i < n; i++) {
        dx[i] = d.pegAt(i)[0] - told[2 * d.strings.get(i).joint];
        dy[i] = d.pegAt(i)[1] - told[2 * d.strings.get(i).joint + 1];
      }
      for (int i = 0; i < n; i++) {
        if (dx[i] == 0 && dy[i] > 0) {
          return i + ":" + fraction(sum, dy[i]);
        }
      }
      for (int i = 0; i < n; i++) {
        for (int j = i + 1; j < n; j++) {
          // By Cramer's rule: p * dx[i] + q * dx[j] = 0, p * dy[i] + q * dy[j] = sum.
          int det = dx[i] * dy[j] - dx[j] * dy[i];
          boolean isAcross = dx[i] > 0 && dx[j] < 0 || dx[i] < 0 && dx[j] > 0;
          if (isAcross && det != 0) {
            int sign = det < 0 ? -1 : 1;
            int p1 = -sum * dx[j] * sign;
            int p2 = sum * dx[i] * sign;
            if (p1 > 0 && p2 > 0) {
              return i + ":" + fraction(p1, det * sign) + " " + j + ":" + fraction(p2, det * sign);
            }
          }
        }
      }
      return "-";
    }

    static String fraction(int a, int b) {
      for (int d = 2; d <= b; d++) {
        while (a % d == 0 && b % d == 0) {
          a /= d;
          b /= d;
        }
      }
      return b == 1 ? "" + a : a + "/" + b;
    }

    long falls(int p, int string) {
      cord(p, string);
      Doll d = doll(p);
      int[] told = d.told();
      if (told == null) {
        return -1;
      }
      int[] then = d.told(d.letsNow(), Set.of(string));
      long sum = 0;
      for (int i = 0; i < d.joints.size(); i++) {
        if (told[2 * i] != then[2 * i] || told[2 * i + 1] != then[2 * i + 1]) {
          sum += 1L << i;
        }
      }
      return sum;
    }

    long reach(int p, int joint, int string) {
      jointOf(p, joint);
      cord(p, string);
      Set<List<Integer>> places = new java.util.HashSet<>();
      for (int let = 0; let <= 9; let++) {
        int[] lets = doll(p).letsNow();
        lets[string] = let;
        int[] pose = doll(p).told(lets, Set.of());
        if (pose != null) {
          places.add(List.of(pose[2 * joint], pose[2 * joint + 1]));
        }
      }
      return places.size();
    }

    long pulls(int p, int joint, int string, int x, int y) {
      jointOf(p, joint);
      cord(p, string);
      between(x, 0, 7);
      between(y, 0, 5);
      long least = -1;
      for (int let = 0; let <= 9; let++) {
        int[] lets = doll(p).letsNow();
        int by = Math.abs(let - lets[string]);
        lets[string] = let;
        int[] pose = doll(p).told(lets, Set.of());
        if (pose != null && pose[2 * joint] == x && pose[2 * joint + 1] == y && (least == -1 || by < least)) {
          least = by;
        }
      }
      return least;
    }

    long way(int p, int joint, int x, int y) {
      jointOf(p, joint);
      between(x, 0, 7);
      between(y, 0, 5);
      int[] pose = doll(p).told();
      if (pose == null) {
        return -1;
      }
      Map<List<Integer>, Integer> steps = new HashMap<>();
      ArrayDeque<List<Integer>> todo = new ArrayDeque<>();
      List<Integer> start = List.of(pose[2 * joint], pose[2 * joint + 1]);
      steps.put(start, 0);
      todo.add(start);
      while (!todo.isEmpty()) {
        List<Integer> here = todo.removeFirst();
        int[][] ways = {{0, 1}, {0, -1}, {1, 0}, {-1, 0}};
        for (int[] w : ways) {
          List<Integer> next = List.of(here.get(0) + w[0], here.get(1) + w[1]);
          boolean isOn = next.get(0) >= 0 && next.get(0) <= 7 && next.get(1) >= 0 && next.get(1) <= 5;
          if (isOn && !s.things.contains(next) && !steps.containsKey(next)) {
            steps.put(next, steps.get(here) + 1);
            todo.add(next);
          }
        }
      }
      return steps.getOrDefault(List.of(x, y), -1);
    }

    static int[] at(int[] pose, int joint) {
      return new int[] {pose[2 * joint], pose[2 * joint + 1]};
    }

    static int cross(int[] a, int[] b, int[] c) {
      return (b[0] - a[0]) * (c[1] - a[1]) - (b[1] - a[1]) * (c[0] - a[0]);
    }

    static boolean isOn(int[] a, int[] b, int[] c) {
      int dot = (c[0] - a[0]) * (c[0] - b[0]) + (c[1] - a[1]) * (c[1] - b[1]);
      return cross(a, b, c) == 0 && dot <= 0;
    }

    static boolean meet(int[] a, int[] b, int[] c, int[] d) {
      if (isOn(a, b, c) || isOn(a, b, d) || isOn(c, d, a) || isOn(c, d, b)) {
        return true;
      }
      boolean isParted = Integer.signum(cross(a, b, c)) == -Integer.signum(cross(a, b, d)) && cross(a, b, c) != 0;
      return isParted && Integer.signum(cross(c, d, a)) == -Integer.signum(cross(c, d, b)) && cross(c, d, a) != 0;
    }

    long isFree(int p, int moment) {
      Doll d = doll(p);
      between(moment, 0, 14);
      int[][] poses = {d.toldAt(moment), d.toldAt(moment + 1)};
      if (poses[0] == null || poses[1] == null) {
        return 0;
      }
      for (int[] pose : poses) {
        for (int i = 1; i < d.joints.size(); i++) {
          int parent = d.joints.get(i).parent;
          for (int j = 1; j < d.joints.size(); j++) {
            int other = d.joints.get(j).parent;
            if (j != i && j != parent && other != i && other != parent && meet(at(pose, i), at(pose, parent), at(pose, j), at(pose, other))) {
              return 0;
            }
          }
          for (int j = 0; j < d.joints.size(); j++) {
            if (j != i && j != parent && meet(at(pose, i), at(pose, parent), at(poses[0], j), at(poses[1], j))) {
              return 0;
            }
          }
        }
      }
      return 1;
    }

    long feet(int p, int a, int b) {
      jointOf(p, a);
      jointOf(p, b);
      for (int moment = 0; moment < 16; moment++) {
        int[] pose = doll(p).toldAt(moment);
        if (pose == null || pose[2 * a + 1] > 0 && pose[2 * b + 1] > 0) {
          return moment;
        }
      }
      return -1;
    }

    long period(int p) {
      String[] told = new String[16];
      for (int moment = 0; moment < 16; moment++) {
        told[moment] = text(doll(p).toldAt(moment));
      }
      for (int n = 1; n <= 8; n++) {
        boolean isOne = true;
        for (int moment = 0; moment <= 15 - n; moment++) {
          isOne &= told[moment].equals(told[moment + n]);
        }
        if (isOne) {
          return n;
        }
      }
      return -1;
    }

    long shadow(int p, int moment) {
      doll(p);
      between(moment, 0, 15);
      return doll(p).shadowOf(doll(p).toldAt(moment));
    }

    /** Step by step, as it is told; all ways of the strings that are there. */
    long table(int p, int from, int to) {
      Doll d = doll(p);
      between(from, 0, 15);
      between(to, 0, 15);
      List<Integer> start = new ArrayList<>();
      List<Integer> goal = new ArrayList<>();
      for (int i = 0; i < d.strings.size(); i++) {
        start.add(d.letsAt(from)[i]);
        goal.add(d.letsAt(to)[i]);
      }
      Map<List<Integer>, Integer> steps = new HashMap<>();
      ArrayDeque<List<Integer>> todo = new ArrayDeque<>();
      if (hasPose(d, start)) {
        steps.put(start, 0);
        todo.add(start);
      }
      while (!todo.isEmpty()) {
        List<Integer> here = todo.removeFirst();
        for (int i = 0; i < here.size(); i++) {
          List<Integer> next = new ArrayList<>(here);
          next.set(i, here.get(i) + Integer.signum(goal.get(i) - here.get(i)));
          if (!steps.containsKey(next) && hasPose(d, next)) {
            steps.put(next, steps.get(here) + 1);
            todo.add(next);
          }
        }
      }
      return steps.getOrDefault(goal, -1);
    }

    static boolean hasPose(Doll d, List<Integer> lets) {
      int[] row = new int[3];
      for (int i = 0; i < lets.size(); i++) {
        row[i] = lets.get(i);
      }
      return d.told(row, Set.of()) != null;
    }

    long clash() {
      for (int moment = 0; moment < 16; moment++) {
        int[] a = s.p[0].toldAt(moment);
        int[] b = s.p[1].toldAt(moment);
        for (int i = 0; a != null && b != null && i < a.length; i += 2) {
          for (int j = 0; j < b.length; j += 2) {
            if (a[i] == b[j] && a[i + 1] == b[j + 1]) {
              return moment;
            }
          }
        }
      }
      return -1;
    }

    String row() {
      return String.join(" ", s.row);
    }

    long strand(int place) {
      number(place, 4);
      List<Integer> lie = new ArrayList<>(List.of(0, 1, 2, 3));
      for (String e : s.row) {
        java.util.Collections.swap(lie, e.charAt(0) - '0', e.charAt(0) - '0' + 1);
      }
      return lie.get(place);
    }

    String paper(int p) {
      StringBuilder b = new StringBuilder();
      for (Map.Entry<Integer, int[]> e : doll(p).keys.entrySet()) {
        int[] l = e.getValue();
        b.append(e.getKey()).append(":").append(l[0]).append(",").append(l[1]).append(",").append(l[2]).append(";");
      }
      return b.toString();
    }

    static boolean canBegin(String text) {
      int last = -1;
      String rest = text;
      while (rest.indexOf(';') >= 0) {
        String key = rest.substring(0, rest.indexOf(';'));
        rest = rest.substring(rest.indexOf(';') + 1);
        if (!key.matches("([0-9]|1[0-5]):[0-9],[0-9],[0-9]")) {
          return false;
        }
        int moment = Integer.parseInt(key.substring(0, key.indexOf(':')));
        if (moment <= last) {
          return false;
        }
        last = moment;
      }
      if (rest.indexOf(':') < 0) {
        return rest.matches("|[0-9]|1[0-5]");
      }
      return rest.matches("([0-9]|1[0-5]):([0-9](,([0-9](,[0-9]?)?)?)?)?") && Integer.parseInt(rest.substring(0, rest.indexOf(':'))) > last;
    }

    long fault() {
      for (int i = 0; i < slip.length(); i++) {
        if (!canBegin(slip.substring(0, i + 1))) {
          return i;
        }
      }
      return slip.isEmpty() || slip.endsWith(";") ? -1 : slip.length();
    }

    String slip() {
      return slip;
    }

    long ofJoint(int p, int joint, int what) {
      Joint j = jointOf(p, joint);
      between(what, 0, 4);
      long strings = 0;
      long rods = joint == 0 ? 0 : 1;
      for (int i = 0; i < doll(p).strings.size(); i++) {
        strings += doll(p).strings.get(i).joint == joint ? 1L << i : 0;
      }
      for (Joint other : doll(p).joints) {
        rods += other.parent == joint ? 1 : 0;
      }
      return new long[] {j.parent, j.square, j.weight, strings, rods}[what];
    }

    long ofString(int p, int string, int what) {
      Cord c = cord(p, string);
      between(what, 0, 5);
      return new long[] {c.peg, c.joint, c.let, c.tear, doll(p).pegAt(string)[0], doll(p).pegAt(string)[1]}[what];
    }

    long ofPuppet(int p, int what) {
      Doll d = doll(p);
      between(what, 0, 6);
      long sum = 0;
      for (Joint j : d.joints) {
        sum += j.weight;
      }
      return new long[] {d.joints.size(), d.strings.size(), d.x, d.tilt, d.keys.size(), d.player, sum}[what];
    }

    long house(int what) {
      between(what, 0, 5);
      return new long[] {s.things.size(), s.row.size(), past.size(), refused, knocks, slip.length()}[what];
    }

    long digest() {
      List<Long> v = new ArrayList<>();
      for (int i = 0; i <= 5; i++) {
        v.add(house(i));
      }
      for (int p = 0; p < 2; p++) {
        for (int i = 0; i <= 6; i++) {
          v.add(ofPuppet(p, i));
        }
        for (int j = 0; j < doll(p).joints.size(); j++) {
          for (int i = 0; i <= 4; i++) {
            v.add(ofJoint(p, j, i));
          }
          v.add(place(p, j, true));
          v.add(place(p, j, false));
        }
        for (int j = 0; j < doll(p).strings.size(); j++) {
          for (int i = 0; i <= 5; i++) {
            v.add(ofString(p, j, i));
          }
          v.add(carries(p, j));
          v.add(falls(p, j));
        }
        v.addAll(List.of(height(p), slack(p), poses(p, false), poses(p, true), (long) balance(p).length(), shadow(p, 0), shadow(p, 7), shadow(p, 15), period(p),
            (long) paper(p).length()));
      }
      v.add(clash());
      for (int i = 0; i < 4; i++) {
        v.add(strand(i));
      }
      v.add(fault());
      v.add(1L);
      long d = 6707;
      for (long x : v) {
        d = d * 31 + x;
      }
      return d;
    }
  }
}
