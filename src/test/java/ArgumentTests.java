import java.lang.reflect.InvocationTargetException;
import java.lang.reflect.Method;
import java.nio.file.Files;
import java.nio.file.Path;
import java.util.ArrayList;
import java.util.Arrays;
import java.util.HashMap;
import java.util.List;
import java.util.Map;
import java.util.TreeSet;
import java.util.regex.Matcher;
import java.util.regex.Pattern;

/**
 * Every call of the face with the last arguments that are allowed and the first ones that are not, each alone and any two
 * at once, on objects in several states: what is thrown, that the exception named first goes ahead, that nothing changes.
 */
public final class ArgumentTests {
  private static final String INDEX = "IndexOutOfBoundsException";
  private static final String ARGUMENT = "IllegalArgumentException";
  private static final String STATE = "IllegalStateException";
  private static final int LEAST = Integer.MIN_VALUE;
  private static final int MOST = Integer.MAX_VALUE;
  /** So many wrong calls an object is asked, that it stays far below 512 calls. */
  private static final int BATCH = 150;

  /** The promise, the call, and of each argument what it is. */
  private static final String[] FACE = {
    "2 joint puppet joint square nine", "3 unjoint puppet", "4 weight puppet joint nine", "5 string puppet peg joint nine", "6 cut puppet string",
    "7 let puppet string nine", "8 pull puppet string by", "9 cross puppet x", "10 tilt puppet tilt", "11 mirror puppet", "12 key puppet moment",
    "13 unkey puppet moment", "14 tear puppet string tearing", "15 exchange k flag", "16 untwist", "17 hand puppet player", "18 thing x y", "19 read puppet",
    "20 type sign", "21 wipe", "22 undo", "23 knock", "24 pose puppet", "25 at puppet moment", "26 lets puppet moment", "27 place puppet joint flag",
    "28 height puppet", "29 poses puppet flag", "30 slack puppet", "31 carries puppet string", "32 balance puppet", "33 falls puppet string",
    "34 reach puppet joint string", "35 pulls puppet joint string x y", "36 way puppet joint x y", "37 isFree puppet moment14", "38 feet puppet joint joint",
    "39 period puppet", "40 shadow puppet moment", "41 table puppet moment moment", "42 clash", "43 row", "44 strand strand", "45 paper puppet", "46 fault",
    "47 slip", "48 ofJoint puppet joint what4", "49 ofString puppet string what5", "50 ofPuppet puppet what6", "51 house what5", "52 isSound", "53 digest"};

  /** States: as runs of calls on a new object. */
  private static final String[] STATES = {
    "",
    "joint 0 0 1 1; string 0 2 1 7; key 0 3; joint 1 0 5 0; joint 1 1 2 9; string 1 0 2 9; string 1 4 0 6; tear 1 1 4; exchange 1 1; type 1; type 5; hand 0 2",
    "joint 0 0 5 2; joint 0 1 2 0; joint 0 0 1 3; string 0 1 0 6; string 0 3 2 5; string 0 4 3 8; key 0 0; key 0 15; full; thing 7 5; thing 0 0",
    "string 0 2 0 0; joint 1 0 4 4; string 1 2 1 1; string 1 2 0 9; string 1 2 0 9; joint 1 0 4 4; joint 1 1 4 4; thing 1 1; type 12; exchange 0 0; undo"};

  private static final Map<String, Method> METHODS = new HashMap<>();
  private static final TreeSet<String> thrown = new TreeSet<>();
  private static int wrong = 0;
  private static int calls = 0;

  public static void main(String[] args) throws Exception {
    for (Method method : Stringpuppet.class.getDeclaredMethods()) {
      METHODS.put(method.getName(), method);
    }
    for (String state : STATES) {
      for (String line : FACE) {
        edges(state, line.split(" "));
      }
    }
    TreeSet<String> due = namedByTheDocument();
    check(due.size() == 70, "the document names " + due.size() + " exceptions");
    check(thrown.equals(due), "thrown were " + thrown + ", the document names " + due);
    System.out.println(wrong == 0 ? "all " + calls + " calls with edges answer as they should" : wrong + " faults");
    if (wrong != 0) {
      System.exit(1);
    }
  }

  private static void check(boolean isRight, String fault) {
    if (!isRight) {
      wrong++;
      System.out.println(fault);
    }
  }

  /** Each exception that a promise names, with the promise's number. */
  private static TreeSet<String> namedByTheDocument() throws Exception {
    TreeSet<String> named = new TreeSet<>();
    Matcher m = Pattern.compile("(?m)^## Promise (\\d+)|^Throws `(\\w+)`").matcher(Files.readString(Path.of("../shared/DOC.md")));
    String promise = "";
    while (m.find()) {
      if (m.group(1) != null) {
        promise = m.group(1);
      } else {
        named.add(promise + " " + m.group(2));
      }
    }
    return named;
  }

  private static Stringpuppet made(String state) {
    Stringpuppet x = new Stringpuppet();
    for (String call : state.split("; ")) {
      String[] words = call.split(" ");
      if (call.equals("full")) {
        fill(x);
      } else if (!call.isEmpty()) {
        int[] numbers = new int[words.length - 1];
        for (int i = 0; i < numbers.length; i++) {
          numbers[i] = Integer.parseInt(words[i + 1]);
        }
        String outcome = outcome(x, words[0], numbers);
        check(outcome == null, state + " can not be made: " + call + " " + outcome);
      }
    }
    return x;
  }

  /** The longest row, a full slip, 8 steps back. */
  private static void fill(Stringpuppet x) {
    for (int i = 0; i < 20; i++) {
      x.exchange(i % 3, true);
    }
    for (int i = 0; i < 40; i++) {
      x.type(i % 13);
    }
  }

  /** What the call throws; null if nothing. */
  private static String outcome(Stringpuppet x, String call, int[] numbers) {
    Method method = METHODS.get(call);
    Object[] given = new Object[numbers.length];
    for (int i = 0; i < given.length; i++) {
      given[i] = method.getParameterTypes()[i] == boolean.class ? (Object) (numbers[i] == 1) : (Object) numbers[i];
    }
    try {
      method.invoke(x, given);
      return null;
    } catch (InvocationTargetException e) {
      return e.getCause().getClass().getSimpleName();
    } catch (IllegalAccessException e) {
      throw new IllegalStateException(e);
    }
  }

  private static void edges(String state, String[] line) {
    String call = line[1];
    String[] kinds = Arrays.copyOfRange(line, 2, line.length);
    Stringpuppet asked = made(state);
    int[] joints = {asked.ofPuppet(0, 0), asked.ofPuppet(1, 0)};
    int[] strings = {asked.ofPuppet(0, 1), asked.ofPuppet(1, 1)};
    String papers = asked.paper(0) + "/" + asked.paper(1);
    int[] house = {asked.house(1), asked.house(2), asked.house(5)};
    Stringpuppet x = made(state);
    int count = 0;
    for (int[] numbers : choices(kinds, joints, strings)) {
      String due = due(call, kinds, numbers, joints, strings);
      due = due == null && isStateWrong(call, numbers, joints, strings, papers, house) ? STATE : due;
      calls++;
      String told = outcome(due == null ? made(state) : x, call, numbers);
      check(due == null ? told == null : due.equals(told), call + Arrays.toString(numbers) + " after [" + state + "]: " + told + " instead of " + due);
      if (due != null) {
        thrown.add(line[0] + " " + due);
        count++;
      }
      if (count == BATCH) {
        unchanged(x, state, call);
        x = made(state);
        count = 0;
      }
    }
    unchanged(x, state, call);
  }

  /** The object is as one that was asked none of the wrong calls, now and each step back. */
  private static void unchanged(Stringpuppet x, String state, String call) {
    Stringpuppet other = made(state);
    for (int step = 0; step <= 8; step++) {
      boolean isLike = x.digest() == other.digest() && x.row().equals(other.row()) && x.slip().equals(other.slip()) && x.paper(0).equals(other.paper(0))
          && x.pose(0).equals(other.pose(0)) && x.pose(1).equals(other.pose(1)) && x.way(0, 0, 7, 5) == other.way(0, 0, 7, 5);
      check(isLike, call + ": a call that threw changed something after [" + state + "], seen " + step + " steps back");
      if (x.house(2) == 0 || other.house(2) == 0) {
        break;
      }
      x.undo();
      other.undo();
    }
  }

  /** Of any two arguments all edges, the others at their least and at their greatest. */
  private static List<int[]> choices(String[] kinds, int[] joints, int[] strings) {
    List<int[]> all = new ArrayList<>();
    if (kinds.length == 0) {
      all.add(new int[0]);
    }
    for (int rest = 0; rest < 2; rest++) {
      for (int i = 0; i < kinds.length; i++) {
        for (int k = Math.min(i + 1, kinds.length - 1); k < kinds.length; k++) {
          addPairs(all, kinds, i, k, rest, joints, strings);
        }
      }
    }
    return all;
  }

  private static void addPairs(List<int[]> all, String[] kinds, int i, int k, int rest, int[] joints, int[] strings) {
    int[] numbers = new int[kinds.length];
    for (int a = 0; a < kinds.length; a++) {
      int[] range = range(kinds[a], rest, joints, strings);
      numbers[a] = Math.max(range[rest], 0);
    }
    for (int first : edgesOf(kinds[i], i == 0 && kinds[i].equals("puppet") ? 0 : rest, joints, strings)) {
      numbers[i] = first;
      int puppet = kinds[0].equals("puppet") && numbers[0] == 1 ? 1 : 0;
      for (int second : i == k ? new int[] {first} : edgesOf(kinds[k], puppet, joints, strings)) {
        numbers[k] = second;
        all.add(numbers.clone());
      }
    }
  }

  private static int[] edgesOf(String kind, int puppet, int[] joints, int[] strings) {
    int[] range = range(kind, puppet, joints, strings);
    if (kind.equals("square")) {
      return new int[] {LEAST, -4, -1, 0, 1, 2, 3, 4, 5, 6, 8, 9, 10, MOST};
    }
    if (kind.equals("flag")) {
      return new int[] {0, 1};
    }
    return new int[] {LEAST, range[0] - 1, range[0], range[1], range[1] + 1, MOST};
  }

  private static int[] range(String kind, int puppet, int[] joints, int[] strings) {
    switch (kind) {
      case "puppet": case "flag": return new int[] {0, 1};
      case "joint": return new int[] {0, joints[puppet] - 1};
      case "string": return new int[] {0, strings[puppet] - 1};
      case "peg": return new int[] {0, 4};
      case "strand": return new int[] {0, 3};
      case "square": return new int[] {1, 5};
      case "nine": return new int[] {0, 9};
      case "by": return new int[] {-9, 9};
      case "x": return new int[] {0, 7};
      case "y": case "what5": return new int[] {0, 5};
      case "tilt": return new int[] {-1, 1};
      case "moment": return new int[] {0, 15};
      case "moment14": return new int[] {0, 14};
      case "tearing": return new int[] {-1, 15};
      case "k": case "player": return new int[] {0, 2};
      case "sign": return new int[] {0, 12};
      case "what4": return new int[] {0, 4};
      case "what6": return new int[] {0, 6};
      default: throw new IllegalStateException(kind);
    }
  }

  /** What the arguments alone call for: what there is not goes ahead of what is beyond its range. */
  private static String due(String call, String[] kinds, int[] numbers, int[] joints, int[] strings) {
    boolean isArgumentWrong = false;
    for (int i = 0; i < kinds.length; i++) {
      boolean isNumber = Arrays.asList("puppet", "joint", "string", "peg", "strand").contains(kinds[i]);
      int puppet = kinds[0].equals("puppet") && numbers[0] == 1 ? 1 : 0;
      int[] range = range(kinds[i], puppet, joints, strings);
      boolean isWrong = numbers[i] < range[0] || numbers[i] > range[1] || kinds[i].equals("square") && numbers[i] == 3;
      if (isWrong && isNumber) {
        return INDEX;
      }
      isArgumentWrong |= isWrong;
    }
    return isArgumentWrong ? ARGUMENT : null;
  }

  private static boolean isStateWrong(String call, int[] numbers, int[] joints, int[] strings, String papers, int[] house) {
    switch (call) {
      case "joint": return joints[numbers[0]] == 4;
      case "unjoint": return joints[numbers[0]] == 1;
      case "string": return strings[numbers[0]] == 3;
      case "unkey": return !(";" + papers.split("/", -1)[numbers[0]]).contains(";" + numbers[1] + ":");
      case "untwist": return house[0] == 0;
      case "undo": return house[1] == 0;
      case "type": return house[2] == 40;
      default: return false;
    }
  }
}
