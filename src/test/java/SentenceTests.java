import java.lang.reflect.InvocationTargetException;
import java.lang.reflect.Method;
import java.math.BigInteger;
import java.nio.file.Files;
import java.nio.file.Path;
import java.util.HashMap;
import java.util.Map;
import java.util.TreeMap;

/**
 * The document sentence by sentence: each one that names a boundary case has a run of calls of its own, which would go
 * wrong if the sentence were broken. A run starts with a new object; its calls are parted by " | ":
 * <pre>
 *   call numbers            made, and throws nothing (a boolean is 1 or 0)
 *   call numbers = answer   answers so
 *   call numbers ! Index    throws (Index, Argument or State), and changes nothing
 *   call numbers refused    answers -9, and changes nothing but how often that was told
 *   n * ...                 all of this n times
 *   write signs             the slip is wiped and written anew
 *   new                     a new object
 * </pre>
 */
public final class SentenceTests {
  private static final Map<String, Method> METHODS = new HashMap<>();
  private static final TreeMap<Integer, Integer> sentencesOf = new TreeMap<>();
  private static String document = "";
  private static int promise = 0;
  private static String quote = "";
  private static int wrong = 0;

  private static Stringpuppet x = null;
  private static int calls = 0;

  public static void main(String[] args) throws Exception {
    document = Files.readString(Path.of("../shared/DOC.md")).replaceAll("\\s+", " ");
    for (Method method : Stringpuppet.class.getDeclaredMethods()) {
      METHODS.put(method.getName(), method);
    }
    newObject();
    jointsAndWeights();
    strings();
    pulled();
    crosses();
    keys();
    strandsAndPlayers();
    thingsAndPapers();
    slips();
    stepsBack();
    toldPoses();
    toldAtMoments();
    countedPoses();
    slackAndCarried();
    balanced();
    reachedPlaces();
    ways();
    free();
    crossings();
    feetPeriodsShadows();
    tablesAndClashes();
    rowsAndPapers();
    faults();
    facts();
    soundness();
    checksums();
    int sentences = 0;
    for (int i = 1; i <= 53; i++) {
      sentences += sentencesOf.getOrDefault(i, 0);
      if (!sentencesOf.containsKey(i)) {
        fault("no sentence of the promise " + i + " is tested");
      }
    }
    System.out.println(wrong == 0 ? "all " + sentences + " sentences hold" : wrong + " faults");
    if (wrong != 0) {
      System.exit(1);
    }
  }

  private static void fault(String what) {
    wrong++;
    System.out.println(what);
  }

  /** A sentence of the document, as it stands there, and a run of calls that hangs on it. */
  private static void says(int number, String sentence, String run) {
    promise = number;
    quote = sentence;
    sentencesOf.merge(number, 1, Integer::sum);
    if (!document.contains(sentence)) {
      fault("the document does not say: " + sentence);
    }
    run(run);
  }

  private static void run(String run) {
    start();
    for (String call : run.split(" \\| ")) {
      int times = 1;
      String rest = call;
      if (call.matches("\\d+ \\* .*")) {
        times = Integer.parseInt(call.substring(0, call.indexOf(' ')));
        rest = call.substring(call.indexOf('*') + 2);
      }
      for (int i = 0; i < times; i++) {
        make(rest);
      }
    }
    if (calls > 512) {
      fault("promise " + promise + ", \"" + quote + "\": the run makes " + calls + " calls");
    }
  }

  private static void start() {
    x = new Stringpuppet();
    calls = 0;
  }

  private static void make(String call) {
    if (call.equals("new")) {
      start();
    } else if (call.startsWith("write ")) {
      outcome("wipe");
      for (int i = 6; i < call.length(); i++) {
        outcome("type " + "0123456789:,;".indexOf(call.charAt(i)));
      }
    } else if (call.endsWith(" refused")) {
      String before = view();
      int told = (int) outcome("house 3");
      due(call, outcome(call.substring(0, call.indexOf(" refused"))), -9);
      due(call + ", counted", outcome("house 3"), told + 1);
      due(call + ", unchanged", view(), before);
    } else if (call.contains(" ! ")) {
      String before = glance();
      due(call, outcome(call.substring(0, call.indexOf(" !"))), call.substring(call.indexOf("! ") + 2));
      due(call + ", unchanged", glance(), before);
    } else if (call.contains(" =")) {
      int equals = call.indexOf(" =");
      due(call, outcome(call.substring(0, equals)), call.substring(Math.min(equals + 3, call.length())));
    } else {
      Object told = outcome(call);
      if ("Index".equals(told) || "Argument".equals(told) || "State".equals(told) || Integer.valueOf(-9).equals(told)) {
        due(call, told, "neither an exception nor refused");
      }
    }
  }

  private static void due(String call, Object told, Object due) {
    if (!String.valueOf(told).equals(String.valueOf(due))) {
      fault("promise " + promise + ", \"" + quote + "\": " + call + ": answered " + told + ", due is " + due);
    }
  }

  /** What a call answers, or the short name of what it throws. */
  private static Object outcome(String call) {
    String[] words = call.split(" ");
    Method method = METHODS.get(words[0]);
    Object[] given = new Object[words.length - 1];
    for (int i = 0; i < given.length; i++) {
      given[i] = method.getParameterTypes()[i] == boolean.class ? (Object) words[i + 1].equals("1") : (Object) Integer.parseInt(words[i + 1]);
    }
    calls++;
    try {
      return method.invoke(x, given);
    } catch (InvocationTargetException e) {
      String name = e.getCause().getClass().getSimpleName();
      return name.equals("IndexOutOfBoundsException") ? "Index" : name.equals("IllegalArgumentException") ? "Argument" : name.equals("IllegalStateException") ? "State" : name;
    } catch (IllegalAccessException e) {
      throw new IllegalStateException(e);
    }
  }

  /** What there is, in a few calls. */
  private static String glance() {
    StringBuilder b = new StringBuilder();
    for (String call : "digest,row,slip,paper 0,paper 1,lets 0 7,pose 0,pose 1".split(",")) {
      b.append(outcome(call)).append('|');
    }
    return b.toString();
  }

  /** All that there is, but how often a call was refused. */
  private static String view() {
    StringBuilder b = new StringBuilder();
    for (String call : "house 0,house 1,house 2,house 4,house 5,row,slip,strand 0,strand 3,clash".split(",")) {
      b.append(outcome(call)).append('|');
    }
    for (int p = 0; p < 2; p++) {
      for (int what = 0; what <= 6; what++) {
        b.append(outcome("ofPuppet " + p + " " + what)).append(' ');
      }
      int joints = (int) outcome("ofPuppet " + p + " 0");
      int strings = (int) outcome("ofPuppet " + p + " 1");
      for (int i = 0; i < 4 * joints + 4 * strings; i++) {
        b.append(outcome(i < 4 * joints ? "ofJoint " + p + " " + i / 4 + " " + i % 4 : "ofString " + p + " " + (i / 4 - joints) + " " + i % 4)).append(' ');
      }
      b.append(outcome("paper " + p)).append(outcome("pose " + p)).append(outcome("lets " + p + " 7"));
    }
    return b.toString();
  }

  private static void newObject() {
    says(1, "Creates two puppets of one joint each, without strings.",
        "ofPuppet 0 0 = 1 | ofPuppet 1 0 = 1 | ofPuppet 0 1 = 0 | ofPuppet 1 1 = 0 | pose 0 = 0,0 | pose 1 = 0,0 | ofJoint 0 0 0 = -1 | ofJoint 1 0 0 = -1");
    says(1, "There are two PUPPETS, 0 and 1.", "ofPuppet 0 0 = 1 | ofPuppet 1 0 = 1 | ofPuppet 2 0 ! Index | ofPuppet -1 0 ! Index | pose 2 ! Index | pose -1 ! Index");
    says(1, "the JOINT 0 is always there (weight 1 at first)", "ofJoint 0 0 2 = 1 | ofJoint 1 0 2 = 1 | ofPuppet 0 6 = 1 | ofPuppet 1 6 = 1 | ofJoint 0 0 1 = 0");
    says(1, "(0 to 7; at first 2 of the PUPPET 0, 5 of 1)", "ofPuppet 0 2 = 2 | ofPuppet 1 2 = 5");
    says(1, "(-1, 0 or 1; 0 at first)", "ofPuppet 0 3 = 0 | ofPuppet 1 3 = 0");
    says(1, "the PUPPET p's cross is held by the PLAYER p at first", "ofPuppet 0 5 = 0 | ofPuppet 1 5 = 1");
    says(1, "how many can be undone", "house 0 = 0 | house 1 = 0 | house 2 = 0 | house 3 = 0 | house 4 = 0 | house 5 = 0 | undo ! State");
    says(1, "STRANDS: four places 0 to 3.", "strand 0 = 0 | strand 1 = 1 | strand 2 = 2 | strand 3 = 3 | row =");
    says(1, "An object is used for at most 512 calls after it has been made", "511 * knock | knock = 512 | new | 510 * cross 0 3 | cross 0 7 = 3 | ofPuppet 0 2 = 7"
        + " | new | 255 * tilt 0 1 | 256 * tilt 0 0 | undo = 7");
  }

  private static void jointsAndWeights() {
    says(2, "Returns its number.", "joint 0 0 1 1 = 1 | joint 0 0 1 1 = 2 | joint 1 0 1 1 = 1 | joint 0 0 1 1 = 3 | unjoint 0 | joint 0 0 1 1 = 3");
    says(2, "Each has JOINTS, at most 4, numbered from 0", "2 * joint 0 0 1 1 | joint 0 0 1 1 = 3 | ofPuppet 0 0 = 4 | joint 0 0 1 1 ! State | joint 1 0 1 1 = 1");
    says(2, "Throws `IllegalStateException` if there are 4",
        "3 * joint 1 0 1 1 | joint 1 0 1 1 ! State | joint 1 3 5 0 ! State | unjoint 1 = 3 | joint 1 0 1 1 = 3 | joint 1 0 1 1 ! State");
    says(2, "each other one hangs by a ROD on an elder JOINT, its PARENT", "joint 0 1 1 1 ! Index | joint 0 0 1 1 | joint 0 2 1 1 ! Index | joint 0 1 1 1 = 2"
        + " | ofJoint 0 2 0 = 1 | joint 0 3 1 1 ! Index | joint 0 2 1 1 = 3 | ofJoint 0 3 0 = 2 | ofJoint 0 1 0 = 0 | joint 1 1 1 1 ! Index | joint 0 -1 1 1 ! Index");
    says(2, "the ROD's SQUARE (1, 2, 4 or 5) is the square of its length", "weight 0 0 0 | joint 0 0 5 1 | cross 0 7 | string 0 2 1 3 | pose 0 = 5,3 7,4 | new | joint 0 0 1 1 | poses 0 0 = 164 | new | joint 0 0 2 1 | poses 0 0 = 140"
        + " | new | joint 0 0 4 1 | poses 0 0 = 136 | new | joint 0 0 5 1 | poses 0 0 = 232");
    says(2, "Throws `IllegalArgumentException` if square is not 1, 2, 4 or 5, or weight not 0 to 9",
        "joint 0 0 0 1 ! Argument | joint 0 0 3 1 ! Argument | joint 0 0 6 1 ! Argument | joint 0 0 -1 1 ! Argument | joint 0 0 1 -1 ! Argument | joint 0 0 1 10 ! Argument"
        + " | joint 0 0 1 0 = 1 | joint 0 0 5 9 = 2 | joint 0 0 2 9 = 3 | new | joint 0 0 4 0 = 1");
    says(2, "Each JOINT has a WEIGHT (0 to 9).", "joint 0 0 1 0 | joint 0 0 1 9 | ofJoint 0 1 2 = 0 | ofJoint 0 2 2 = 9 | ofPuppet 0 6 = 10");
    says(2, "If several exceptions apply, the one that is named first is thrown.",
        "3 * joint 0 0 1 1 | joint 0 4 3 10 ! Index | joint 2 0 3 10 ! Index | joint 0 3 3 1 ! Argument | joint 0 3 1 10 ! Argument");
    says(2, "A method that throws an exception changes nothing.", "cross 0 3 | 8 * cross 0 4 | cross 0 5 | joint 0 0 3 1 ! Argument | joint 0 1 1 1 ! Index"
        + " | joint 0 0 1 1 | unjoint 0 | unjoint 0 ! State | house 2 = 8 | 3 * undo | ofPuppet 0 2 = 4");

    says(3, "Returns how many JOINTS are left.", "3 * joint 0 0 1 1 | unjoint 0 = 3 | unjoint 0 = 2 | unjoint 0 = 1 | ofPuppet 0 0 = 1");
    says(3, "Throws `IllegalStateException` if there is the JOINT 0 alone", "unjoint 0 ! State | unjoint 1 ! State | joint 0 0 1 1 | unjoint 1 ! State | unjoint 0 = 1 | unjoint 0 ! State");
    says(3, "The last JOINT goes, with its ROD", "joint 0 0 1 2 | joint 0 1 1 3 | ofJoint 0 1 4 = 2 | unjoint 0 | ofJoint 0 1 4 = 1 | ofPuppet 0 6 = 3 | ofJoint 0 2 0 ! Index | pose 0 = 0,0 1,0");
    says(3, "STRINGS on it are cut (those behind move up).", "joint 0 0 1 1 | string 0 0 1 1 | string 0 1 0 2 | string 0 2 1 3 | tear 0 1 7 | unjoint 0 | ofPuppet 0 1 = 1 | ofString 0 0 0 = 1"
        + " | ofString 0 0 1 = 0 | ofString 0 0 2 = 2 | ofString 0 0 3 = 7 | ofString 0 1 0 ! Index"
        + " | new | joint 0 0 1 1 | string 0 0 1 1 | string 0 1 1 2 | string 0 2 1 3 | key 0 4 | unjoint 0 | ofPuppet 0 1 = 0 | paper 0 = 4:1,2,3;"
        + " | new | joint 0 0 1 1 | string 0 0 0 1 | string 0 1 0 2 | string 0 2 0 3 | unjoint 0 | ofPuppet 0 1 = 3 | ofString 0 2 2 = 3"
        + " | new | joint 0 0 1 1 | string 0 0 1 1 | string 0 1 0 2 | string 0 2 0 3 | unjoint 0 | ofPuppet 0 1 = 2 | ofString 0 0 2 = 2 | ofString 0 1 2 = 3"
        + " | new | joint 0 0 1 1 | joint 0 0 1 1 | string 0 0 1 1 | string 0 1 2 2 | unjoint 0 | ofPuppet 0 1 = 1 | ofString 0 0 1 = 1");

    says(4, "its WEIGHT from now on Returns that before.", "weight 0 0 9 = 1 | weight 0 0 0 = 9 | weight 0 0 0 = 0 | ofJoint 0 0 2 = 0 | ofJoint 1 0 2 = 1");
    says(4, "Throws `IllegalArgumentException` if weight is not 0 to 9", "weight 1 0 10 ! Argument | weight 1 0 -1 ! Argument | weight 1 0 0 | weight 1 0 9");
    says(4, "Throws `IndexOutOfBoundsException` if there is no such PUPPET or JOINT", "weight 0 1 5 ! Index | joint 0 0 1 1 | weight 0 1 5 = 1 | weight 0 2 5 ! Index | weight 0 -1 5 ! Index"
        + " | weight 1 1 5 ! Index | weight 2 0 10 ! Index | weight 0 2 10 ! Index");
    says(4, "HEIGHT: the sum of WEIGHT * y of all JOINTS.", "string 0 2 0 2 | height 0 = 5 | weight 0 0 9 | height 0 = 45 | weight 0 0 0 | height 0 = 0");
  }

  private static void strings() {
    says(5, "Returns its number.", "string 0 0 0 5 = 0 | string 0 4 0 5 = 1 | string 1 0 0 5 = 0 | string 0 0 0 5 = 2 | cut 0 0 | string 0 0 0 5 = 2");
    says(5, "STRINGS, at most 3, numbered from 0", "2 * string 0 2 0 7 | string 0 2 0 7 = 2 | string 0 2 0 7 ! State | ofPuppet 0 1 = 3 | string 1 2 0 7 = 0");
    says(5, "Throws `IllegalStateException` if there are 3", "3 * string 1 2 0 7 | string 1 2 0 7 ! State | string 1 4 0 0 ! State | cut 1 2 = 2 | string 1 4 0 0 = 2 | string 1 4 0 0 ! State");
    says(5, "(several may have the same)", "3 * string 0 3 0 7 | ofJoint 0 0 3 = 7 | ofString 0 0 0 = 3 | ofString 0 2 0 = 3 | pose 0 = 3,0");
    says(5, "on it PEGS 0 to 4", "string 0 -1 0 5 ! Index | string 0 5 0 5 ! Index | string 0 0 0 5 = 0 | string 0 4 0 5 = 1 | ofString 0 0 0 = 0 | ofString 0 1 0 = 4");
    says(5, "Throws `IndexOutOfBoundsException` if there is no such PUPPET, PEG or JOINT", "string 2 0 0 5 ! Index | string -1 0 0 5 ! Index | string 0 0 1 5 ! Index | string 0 0 -1 5 ! Index"
        + " | joint 0 0 1 1 | string 0 0 1 5 = 0 | string 0 0 2 5 ! Index | string 1 0 1 5 ! Index");
    says(5, "with a LET (0 to 9)", "string 0 0 0 -1 ! Argument | string 0 0 0 10 ! Argument | string 0 0 0 0 = 0 | string 0 0 0 9 = 1 | ofString 0 0 2 = 0 | ofString 0 1 2 = 9");
    says(5, "If several exceptions apply, the one that is named first is thrown.", "3 * string 0 0 0 5 | string 0 5 0 10 ! Index | string 0 0 1 10 ! Index | string 2 0 0 5 ! Index"
        + " | string 0 0 0 10 ! Argument | string 0 0 0 -1 ! Argument | string 0 0 0 9 ! State");
    says(5, "the MOMENT at which it TEARS (NONE)", "string 0 0 0 5 | ofString 0 0 3 = -1 | tear 0 0 0 | cut 0 0 | string 0 0 0 5 | ofString 0 0 3 = -1");

    says(6, "Returns how many are left.", "3 * string 0 2 0 7 | cut 0 1 = 2 | cut 0 1 = 1 | cut 0 0 = 0 | ofPuppet 0 1 = 0");
    says(6, "A STRING is cut; those behind it move up (TEARS with them; LETS of KEYS stay where they are).",
        "string 0 0 0 1 | string 0 1 0 2 | string 0 2 0 3 | tear 0 0 4 | tear 0 1 5 | tear 0 2 6 | key 0 2 | cut 0 0 = 2 | ofString 0 0 0 = 1 | ofString 0 0 2 = 2 | ofString 0 0 3 = 5"
        + " | ofString 0 1 0 = 2 | ofString 0 1 2 = 3 | ofString 0 1 3 = 6 | paper 0 = 2:1,2,3; | lets 0 2 = 1 2 3 | cut 0 1 = 1 | ofString 0 0 0 = 1 | ofString 0 0 3 = 5"
        + " | new | string 0 0 0 1 | joint 0 0 1 1 | string 0 1 1 2 | string 0 2 0 3 | cut 0 1 = 2 | ofString 0 0 2 = 1 | ofString 0 1 2 = 3 | ofString 0 1 1 = 0 | ofJoint 0 0 3 = 3");
    says(6, "Throws `IndexOutOfBoundsException` if there is no such PUPPET or STRING", "cut 0 0 ! Index | string 0 0 0 5 | cut 0 1 ! Index | cut 0 -1 ! Index | cut 1 0 ! Index | cut 2 0 ! Index | cut -1 0 ! Index"
        + " | cut 0 0 = 0 | cut 0 0 ! Index");

    says(7, "its LET from now on Returns that before.", "string 0 0 0 5 | let 0 0 9 = 5 | let 0 0 0 = 9 | let 0 0 0 = 0 | ofString 0 0 2 = 0");
    says(7, "Throws `IllegalArgumentException` if let is not 0 to 9", "string 0 0 0 5 | let 0 0 10 ! Argument | let 0 0 -1 ! Argument | let 0 0 9 | let 0 0 0");
    says(7, "Throws `IndexOutOfBoundsException` if there is no such PUPPET or STRING", "let 0 0 5 ! Index | string 0 0 0 5 | let 0 1 5 ! Index | let 0 -1 5 ! Index | let 1 0 5 ! Index | let 2 0 10 ! Index | let 0 1 10 ! Index");
    says(7, "There may be none.", "string 0 2 0 2 | pose 0 = 2,5 | let 0 0 1 = 2 | pose 0 = - | let 0 0 2 = 1 | pose 0 = 2,5");
  }

  private static void pulled() {
    says(8, "by how much shorter its LET is then (below 0: longer)", "string 0 2 0 7 | pull 0 0 2 = 5 | ofString 0 0 2 = 5 | pull 0 0 0 = 5 | pull 0 0 -1 = 6 | pull 0 0 1 = 5");
    says(8, "REFUSED is -9, where a method names it: nothing changes then", "string 0 2 0 2 | pull 0 0 1 = -9 | hand 0 1 = -9 | 20 * exchange 0 1 | exchange 0 1 = -9 | type 10 | read 0 = -9 | house 3 = 4 | pull 0 0 1 refused | hand 0 1 refused | exchange 0 1 refused | read 0 refused");
    says(8, "REFUSED if that would not be 0 to 9", "tilt 0 1 | cross 0 4 | string 0 0 0 1 | pull 0 0 1 = 0 | pose 0 = 2,5 | pull 0 0 1 refused | pull 0 0 9 refused | pull 0 0 -9 = 9"
        + " | pull 0 0 -1 refused | pull 0 0 -9 refused | ofString 0 0 2 = 9 | pull 0 0 9 = 0");
    says(8, "or if there is a POSE now, and would be none.", "string 0 2 0 3 | pull 0 0 1 = 2 | pull 0 0 1 refused | pull 0 0 2 refused | ofString 0 0 2 = 2 | pose 0 = 2,5"
        + " | new | string 0 2 0 2 | tear 0 0 0 | pull 0 0 1 refused"
        + " | new | string 0 2 0 2 | string 0 2 0 1 | pull 0 0 2 = 0 | pull 0 1 -1 = 2 | pull 0 0 -1 = 1 | pose 0 = - | pull 0 0 -1 = 2 | pull 0 0 1 refused");
    says(8, "Throws `IllegalArgumentException` if by is not -9 to 9", "string 0 2 0 7 | pull 0 0 10 ! Argument | pull 0 0 -10 ! Argument | let 0 0 9 | pull 0 0 9 refused | let 0 0 0 | pull 0 0 9 refused | pull 0 0 -9 = 9");
    says(8, "nothing changes then (exceptions go ahead of it)", "string 0 2 0 2 | pull 0 0 10 ! Argument | pull 0 1 1 ! Index | pull 0 1 10 ! Index | pull 2 0 10 ! Index | house 3 = 0");
    says(8, "is not REFUSED is a STEP", "string 0 2 0 2 | 8 * cross 0 3 | cross 0 4 | pull 0 0 1 refused | pull 0 0 9 refused | house 2 = 8 | undo = 7 | ofPuppet 0 2 = 3");
    says(8, "Throws `IndexOutOfBoundsException` if there is no such PUPPET or STRING", "pull 0 0 1 ! Index | string 0 2 0 5 | pull 0 1 1 ! Index | pull 0 -1 1 ! Index | pull 1 0 1 ! Index | pull -1 0 1 ! Index");
  }

  private static void crosses() {
    says(9, "X of its CROSS from now on Returns that before.", "cross 0 0 = 2 | cross 0 7 = 0 | cross 0 7 = 7 | ofPuppet 0 2 = 7 | cross 1 3 = 5 | ofPuppet 0 2 = 7");
    says(9, "Throws `IllegalArgumentException` if x is not 0 to 7", "cross 0 8 ! Argument | cross 0 -1 ! Argument | cross 2 8 ! Index | cross -1 0 ! Index | cross 0 0 | cross 0 7");
    says(9, "(which may lie beside the STAGE)", "cross 0 0 | string 0 0 0 7 | ofString 0 0 4 = -2 | pose 0 = 0,1 | new | cross 0 7 | string 0 4 0 8 | ofString 0 0 4 = 9 | pose 0 = 6,0"
        + " | new | cross 0 0 | string 0 1 0 1 | ofString 0 0 4 = -1 | pose 0 = -");
    says(9, "the PEG k is at the place X + k - 2", "cross 0 0 | string 0 0 0 9 | string 0 2 0 9 | string 0 4 0 9 | ofString 0 0 4 = -2 | ofString 0 1 4 = 0 | ofString 0 2 4 = 2 | cross 0 7 | ofString 0 0 4 = 5"
        + " | ofString 0 1 4 = 7 | ofString 0 2 4 = 9");
    says(10, "its TILT from now on Returns that before.", "tilt 0 1 = 0 | tilt 0 -1 = 1 | tilt 0 -1 = -1 | tilt 0 0 = -1 | ofPuppet 0 3 = 0 | tilt 1 1 = 0 | ofPuppet 1 3 = 1");
    says(10, "Throws `IllegalArgumentException` if tilt is not -1 to 1", "tilt 0 2 ! Argument | tilt 0 -2 ! Argument | tilt 2 2 ! Index | tilt -1 0 ! Index | tilt 0 -1 | tilt 0 1");
    says(10, "7 + TILT * (k - 2)", "string 0 0 0 9 | string 0 2 0 9 | string 0 4 0 9 | ofString 0 0 5 = 7 | ofString 0 2 5 = 7 | tilt 0 1 | ofString 0 0 5 = 5 | ofString 0 1 5 = 7 | ofString 0 2 5 = 9"
        + " | tilt 0 -1 | ofString 0 0 5 = 9 | ofString 0 1 5 = 7 | ofString 0 2 5 = 5");
    says(11, "X becomes 7 - X", "cross 0 0 | mirror 0 = 7 | ofPuppet 0 2 = 7 | mirror 0 = 0 | cross 0 3 | mirror 0 = 4 | ofPuppet 1 2 = 5 | mirror 1 = 2");
    says(11, "TILT the other way", "tilt 0 1 | mirror 0 | ofPuppet 0 3 = -1 | mirror 0 | ofPuppet 0 3 = 1 | tilt 0 0 | mirror 0 | ofPuppet 0 3 = 0");
    says(11, "the PEG k of each STRING 4 - k", "string 0 0 0 5 | string 0 3 0 6 | string 0 2 0 7 | tear 0 1 4 | key 0 3 | mirror 0 | ofString 0 0 0 = 4 | ofString 0 1 0 = 1 | ofString 0 2 0 = 2"
        + " | ofString 0 1 2 = 6 | ofString 0 1 3 = 4 | paper 0 = 3:5,6,7; | mirror 0 | ofString 0 0 0 = 0");
    says(11, "Returns X of its CROSS then.", "mirror 0 = 5 | mirror 0 = 2 | mirror 2 ! Index | mirror -1 ! Index");
  }

  private static void keys() {
    says(12, "A KEY of the LETS that the STRINGS have now (instead of one that is there).", "string 0 2 0 7 | key 0 4 = 1 | let 0 0 3 | key 0 4 = 1 | paper 0 = 4:3,0,0; | key 0 5 = 2 | let 0 0 2 | paper 0 = 4:3,0,0;5:3,0,0;");
    says(12, "(key() tells 0 of a STRING that is not there.)", "key 0 0 | lets 0 0 = 0 0 0 | string 0 2 0 7 | key 0 0 | lets 0 0 = 7 0 0 | string 0 2 0 9 | string 0 2 0 8 | key 0 0 | lets 0 0 = 7 9 8 | cut 0 0"
        + " | lets 0 0 = 7 9 8 | key 0 0 | lets 0 0 = 9 8 0");
    says(12, "a number stays at its place, whatever STRING is there later", "string 0 2 0 7 | string 0 2 0 5 | key 0 0 | at 0 0 = 2,2 | cut 0 0 | pose 0 = 2,2 | at 0 0 = 2,0 | string 0 2 0 9 | at 0 0 = 2,2 | pose 0 = 2,2");
    says(12, "Throws `IllegalArgumentException` if moment is not 0 to 15", "key 0 -1 ! Argument | key 0 16 ! Argument | key 2 16 ! Index | key -1 0 ! Index | key 0 0 = 1 | key 0 15 = 2 | key 1 15 = 1");
    says(12, "MOMENTS are 0 to 15.", "string 0 2 0 7 | key 0 0 | key 0 15 = 2 | key 0 16 ! Argument | key 0 -1 ! Argument | tear 0 0 15 | at 0 15 = 0,0 | at 0 16 ! Argument | at 0 -1 ! Argument | lets 0 0 = 7 0 0 | lets 0 15 = 7 0 0"
        + " | lets 0 16 ! Argument | shadow 0 15 = 1 | shadow 0 0 = 4 | shadow 0 -1 ! Argument | unkey 0 15 = 1 | unkey 0 0 = 0 | unkey 0 -1 ! Argument");
    says(12, "LETS of its three STRINGS 0 to 2 (0 of those that are not there", "3 * string 0 2 0 9 | let 0 1 8 | let 0 2 7 | key 0 3 | paper 0 = 3:9,8,7; | cut 0 2 | key 0 3 | paper 0 = 3:9,8,0; | cut 0 0 | key 0 3 | paper 0 = 3:8,0,0; | cut 0 0 | key 0 3 | paper 0 = 3:0,0,0; | ofPuppet 0 4 = 1");
    says(12, "A KEY of the LETS that the STRINGS have now", "string 0 2 0 7 | tear 0 0 0 | key 0 5 = 1 | lets 0 5 = 7 0 0 | pull 0 0 1 | key 1 5 = 1 | paper 0 = 5:7,0,0; | paper 1 = 5:0,0,0;");
    says(12, "Returns how many KEYS the TABLE has.", "key 0 0 = 1 | key 0 15 = 2 | key 0 7 = 3 | key 0 0 = 3 | key 1 0 = 1 | key 0 1 = 4 | key 0 2 = 5 | key 0 3 = 6 | key 0 4 = 7 | key 0 5 = 8 | key 0 6 = 9 | key 0 8 = 10"
        + " | key 0 9 = 11 | key 0 10 = 12 | key 0 11 = 13 | key 0 12 = 14 | key 0 13 = 15 | key 0 14 = 16 | key 0 14 = 16");
    says(13, "Returns how many are left.", "key 0 0 | key 0 15 | key 1 0 | unkey 0 0 = 1 | unkey 0 15 = 0 | paper 0 = | ofPuppet 1 4 = 1");
    says(13, "Throws `IllegalStateException` if none is there", "unkey 0 0 ! State | key 0 0 | unkey 0 1 ! State | unkey 0 15 ! State | unkey 1 0 ! State | unkey 0 0 = 0 | unkey 0 0 ! State");
    says(13, "Throws `IllegalArgumentException` if moment is not 0 to 15", "unkey 0 16 ! Argument | unkey 0 -1 ! Argument | unkey 2 16 ! Index | unkey -1 0 ! Index | key 0 15 | unkey 0 15 = 0");
    says(13, "without KEYS those that the STRINGS have now (0 where none is)", "string 0 2 0 7 | key 0 3 | let 0 0 4 | lets 0 9 = 7 0 0 | unkey 0 3 | lets 0 9 = 4 0 0");
    says(14, "the MOMENT; NONE: it does not TEAR Returns that before.", "string 0 2 0 2 | tear 0 0 0 = -1 | tear 0 0 15 = 0 | tear 0 0 -1 = 15 | tear 0 0 -1 = -1 | at 0 15 = 2,5 | ofString 0 0 3 = -1");
    says(14, "from that one on it is as if it were cut", "string 0 2 0 2 | tear 0 0 7 | at 0 0 = 2,5 | at 0 6 = 2,5 | at 0 7 = 0,0 | at 0 15 = 0,0 | tear 0 0 0 | at 0 0 = 0,0 | tear 0 0 15 | at 0 14 = 2,5 | at 0 15 = 0,0 | pose 0 = 2,5");
    says(14, "Throws `IllegalArgumentException` if moment is not -1 to 15", "string 0 2 0 2 | tear 0 0 -2 ! Argument | tear 0 0 16 ! Argument | tear 0 1 16 ! Index | tear 2 0 16 ! Index | tear 1 0 0 ! Index | tear 0 -1 0 ! Index");
  }

  private static void strandsAndPlayers() {
    says(15, "Returns how long the ROW is then", "exchange 0 1 = 1 | exchange 2 0 = 2 | exchange 0 1 = 3 | exchange 0 1 = 4 | house 1 = 4");
    says(15, "Throws `IllegalArgumentException` if k is not 0 to 2", "exchange -1 1 ! Argument | exchange 3 0 ! Argument | exchange 0 1 = 1 | exchange 2 1 = 2 | 18 * exchange 1 1 | exchange 3 1 ! Argument | exchange -1 0 ! Argument | house 3 = 0");
    says(15, "if the last one was at the same k with the other sign, both go instead", "exchange 1 1 | exchange 1 0 = 0 | row = | exchange 1 0 | exchange 1 1 = 0 | exchange 1 1 = 1 | exchange 1 1 = 2 | exchange 2 0 = 3"
        + " | exchange 1 0 = 4 | row = 1+ 1+ 2- 1- | exchange 1 1 = 3 | exchange 2 1 = 2 | exchange 1 0 = 1 | exchange 1 0 = 0");
    says(15, "It is at most 20 long.", "19 * exchange 0 1 | exchange 0 1 = 20 | exchange 0 1 refused | exchange 1 1 refused | exchange 2 0 refused | exchange 0 0 = 19 | exchange 1 0 = 20 | exchange 1 1 = 19");
    says(15, "REFUSED if it would be longer than 20.", "cross 0 3 | 20 * exchange 2 0 | exchange 2 0 refused | exchange 1 0 refused | house 2 = 8 | undo = 7 | house 1 = 19 | exchange 2 0 = 20 | exchange 2 1 = 19");
    says(15, "An EXCHANGE at k (0 to 2)", "exchange -1 0 ! Argument | exchange 3 1 ! Argument | exchange 0 0 = 1 | exchange 2 0 = 2 | strand 0 = 1 | strand 3 = 2");
    says(15, "each new one comes behind", "exchange 2 0 | exchange 1 1 | exchange 0 0 | exchange 1 1 | row = 2- 1+ 0- 1+");
    says(16, "Returns how many are left.", "20 * exchange 2 1 | untwist = 19 | 17 * untwist | untwist = 1 | untwist = 0 | row =");
    says(16, "Throws `IllegalStateException` if there is none", "untwist ! State | exchange 0 1 | untwist = 0 | untwist ! State");
    says(16, "The last EXCHANGE of the ROW is taken back.", "exchange 0 1 | exchange 1 0 | untwist = 1 | row = 0+ | strand 0 = 1 | strand 1 = 0 | strand 2 = 2 | exchange 0 0 = 0");
    says(17, "Returns the PLAYER before", "hand 0 2 = 0 | hand 0 0 = 2 | hand 0 0 = 0 | hand 1 1 = 1 | hand 1 2 = 1 | ofPuppet 1 5 = 2 | ofPuppet 0 5 = 0");
    says(17, "REFUSED if that one holds the other cross.", "hand 0 1 refused | hand 1 0 refused | hand 1 2 | hand 0 2 refused | hand 0 1 = 0 | hand 1 1 refused | hand 1 0 = 2");
    says(17, "PLAYERS 0 to 2", "hand 0 3 ! Argument | hand 0 -1 ! Argument | hand 2 1 ! Index | hand -1 3 ! Index | hand 2 3 ! Index | hand 0 2 | hand 0 0 | house 3 = 0");
    says(17, "REFUSED is a STEP; the last 8 can be undone", "8 * cross 0 3 | cross 0 4 | hand 0 1 refused | undo = 7 | ofPuppet 0 2 = 3 | hand 0 0 = 0 | house 2 = 8");
  }

  private static void thingsAndPapers() {
    says(18, "A THING comes to a PLACE, or, if one is there, goes.", "thing 3 3 = 1 | thing 3 4 = 2 | thing 3 3 = 1 | thing 3 3 = 2 | thing 3 3 = 1 | thing 3 4 = 0 | house 0 = 0");
    says(18, "Throws `IllegalArgumentException` if x is not 0 to 7, or y not 0 to 5", "thing -1 0 ! Argument | thing 8 0 ! Argument | thing 0 -1 ! Argument | thing 0 6 ! Argument | thing 0 0 = 1 | thing 7 5 = 2 | thing 0 5 = 3 | thing 7 0 = 4");
    says(18, "Returns how many THINGS there are.", "thing 7 0 = 1 | thing 7 0 = 0 | thing 7 0 = 1");
    start();
    for (int place = 0; place < 48; place++) {
      due("the thing " + place, x.thing(place / 6, place % 6), place + 1);
    }
    due("a thing of 48 goes", x.thing(7, 5), 47);
    says(19, "Returns how many KEYS it has then", "write 0:1,2,3;15:4,5,6; | read 0 = 2 | paper 0 = 0:1,2,3;15:4,5,6; | paper 1 = | house 5 = 17"
        + " | write 1:0,0,0;2:0,0,0;3:0,0,0;4:0,0,0;5:9,9,9; | house 5 = 40 | read 1 = 5 | paper 1 = 1:0,0,0;2:0,0,0;3:0,0,0;4:0,0,0;5:9,9,9;");
    says(19, "REFUSED with a FAULT.", "key 0 2 | write 0:1,2,3;: | read 0 refused | write 0:1,2,3 | read 0 refused | write 0:1,2,3;1 | read 1 refused | paper 0 = 2:0,0,0; | type 9 | read 0 refused | house 2 = 1 | undo | paper 0 =");
    says(19, "NONE otherwise (also of an empty one)", "key 0 2 | wipe | fault = -1 | read 0 = 0 | paper 0 = | undo | paper 0 = 2:0,0,0;");
    says(19, "Throws `IndexOutOfBoundsException` if there is no such PUPPET", "read 2 ! Index | read -1 ! Index | write : | read 2 ! Index | read -1 ! Index | house 3 = 0");
  }

  private static void slips() {
    says(20, "Returns how many stand there.", "type 0 = 1 | type 12 = 2 | wipe | type 5 = 1");
    says(20, "The SLIP is a row of at most 40 SIGNS", "39 * type 3 | type 4 = 40 | type 4 ! State | house 5 = 40 | wipe = 40 | type 4 = 1");
    says(20, "0 to 9 digits, 10 \":\", 11 \",\", 12 \";\"", "type 0 | type 9 | type 10 | type 11 | type 12 | slip = 09:,;");
    says(20, "Throws `IllegalArgumentException` if sign is not 0 to 12", "type -1 ! Argument | type 13 ! Argument | type 12 = 1 | type 0 = 2 | 38 * type 1 | type 13 ! Argument | type -1 ! Argument | type 12 ! State");
    says(21, "The SLIP is empty then.", "wipe = 0 | type 1 | wipe = 1 | slip = | house 5 = 0 | fault = -1 | 40 * type 1 | wipe = 40 | wipe = 0");
    says(21, "Returns how many stood there.", "wipe = 0 | type 1 | type 2 | wipe = 2");
    says(23, "Returns how often one knocked, with this.", "knock = 1 | knock = 2 | house 4 = 2 | cross 0 3 | undo | knock = 3 | house 2 = 0");
  }

  private static void stepsBack() {
    says(22, "Throws `IllegalStateException` if none can be undone", "undo ! State | knock | type 1 | wipe | pose 0 | undo ! State | cross 0 3 | undo = 0 | undo ! State");
    says(22, "the last 8 can be undone", "cross 0 0 | cross 0 1 | cross 0 2 | cross 0 3 | cross 0 4 | cross 0 5 | cross 0 6 | cross 0 7 | house 2 = 8 | cross 0 1 | house 2 = 8 | cross 0 5 | house 2 = 8 | 2 * undo | ofPuppet 0 2 = 7"
        + " | undo = 5 | ofPuppet 0 2 = 6 | 4 * undo | ofPuppet 0 2 = 2 | undo = 0 | ofPuppet 0 2 = 1 | undo ! State");
    says(22, "Returns how many can be undone still.", "8 * tilt 0 1 | undo = 7 | undo = 6 | undo = 5 | tilt 0 1 | undo = 5 | undo = 4 | undo = 3 | undo = 2 | undo = 1 | undo = 0 | undo ! State");
    says(22, "Undoes a STEP (that is none).", "cross 0 3 | cross 0 4 | undo = 1 | house 2 = 1 | undo = 0 | ofPuppet 0 2 = 2 | undo ! State");
    String[] steps = {"joint 0 0 1 1", "unjoint 0", "weight 0 0 5", "string 0 1 0 5", "cut 0 0", "let 0 0 9", "pull 0 0 1", "cross 0 7", "tilt 0 1", "mirror 0", "key 0 9", "unkey 0 2", "tear 0 0 3", "exchange 1 1",
      "exchange 0 0", "untwist", "hand 0 2", "thing 4 4", "thing 1 1", "read 0", "weight 0 0 1", "let 0 0 6", "pull 0 0 0", "cross 0 2", "tilt 0 0", "tear 0 0 -1", "hand 0 0", "key 0 2"};
    String built = "thing 1 1 | joint 0 0 1 1 | string 0 2 0 6 | string 0 3 1 7 | key 0 2 | exchange 0 1 | write 4:1,2,3;";
    for (int i = 0; i < 2 * steps.length; i++) {
      // All of it once more with the puppet 1.
      String step = i < steps.length ? steps[i] : withSecondPuppet(steps[i - steps.length]);
      String before = i < steps.length ? built : withSecondPuppet(built);
      says(22, "Each call of the first two groups below that throws nothing and is not REFUSED is a STEP", before + " | house 2 = 6 | " + step + " | house 2 = 7");
      run(before + " | " + step + " | undo = 6");
      String after = view();
      run(before);
      due(step + ", undone", after, view());
      run(before + " | 3 * tilt 1 0 | " + step + " | tilt 1 0 | undo | undo = 6");
      due(step + ", undone from a full past", view(), after);
    }
    says(22, "is as it was", "thing 0 1 | thing 1 0 | way 0 0 7 5 = -1 | undo | way 0 0 7 5 = 12 | way 0 0 0 1 = -1 | undo | way 0 0 0 1 = 1 | string 0 2 0 5 | tear 0 0 9 | cut 0 0 | undo | ofString 0 0 3 = 9 | undo | ofString 0 0 3 = -1");
    String[] others = {"type 1", "wipe", "knock", "pose 0", "at 0 1", "lets 0 1", "place 0 0 1", "height 0", "poses 0 1", "slack 0", "carries 0 0", "balance 0", "falls 0 0", "reach 0 0 0", "pulls 0 0 0 1 1", "way 0 0 5 5",
      "isFree 0 0", "feet 0 0 1", "period 0", "shadow 0 0", "table 0 0 1", "clash", "row", "strand 0", "paper 0", "fault", "slip", "ofJoint 0 0 0", "ofString 0 0 0", "ofPuppet 0 0", "house 0", "isSound", "digest"};
    for (String other : others) {
      says(22, "Each call of the first two groups below", built + " | cross 0 4 | house 2 = 7 | " + other + " | house 2 = 7 | undo = 6 | ofPuppet 0 2 = 2");
    }
    says(22, "is as it was", "exchange 0 1 | exchange 1 0 | untwist | exchange 2 1 | row = 0+ 2+ | undo | row = 0+ | undo | row = 0+ 1- | strand 2 = 0 | string 1 2 0 7 | key 1 4 | let 1 0 2 | key 1 4 | undo | paper 1 = 4:7,0,0; | undo | undo | pose 1 = 5,0");
    says(22, "all but the SLIP and what is counted in house() 3 and 4 is as it was",
        "joint 1 0 5 9 | joint 0 0 2 3 | string 0 4 1 8 | string 1 0 1 9 | string 1 1 0 7 | tear 0 0 5 | tear 1 1 15 | tilt 0 1 | tilt 1 -1 | cross 0 7 | cross 1 0 | weight 0 0 0 | hand 1 2 | hand 0 1 | key 0 15 | key 1 0 | thing 7 5 | exchange 2 1 | exchange 1 0"
        + " | cross 1 3 | 7 * let 0 0 8 | 8 * undo | house 2 = 0 | ofPuppet 0 0 = 2 | ofPuppet 0 1 = 1 | ofPuppet 0 2 = 7 | ofPuppet 0 3 = 1 | ofPuppet 0 4 = 1 | ofPuppet 0 5 = 1 | ofPuppet 0 6 = 3 | ofPuppet 1 0 = 2 | ofPuppet 1 1 = 2 | ofPuppet 1 2 = 0 | ofPuppet 1 3 = -1"
        + " | ofPuppet 1 4 = 1 | ofPuppet 1 5 = 2 | ofPuppet 1 6 = 10 | ofJoint 0 1 1 = 2 | ofJoint 1 1 1 = 5 | ofJoint 1 1 2 = 9 | ofString 0 0 0 = 4 | ofString 0 0 1 = 1 | ofString 0 0 2 = 8 | ofString 0 0 3 = 5 | ofString 1 1 0 = 1 | ofString 1 1 3 = 15 | ofString 1 0 3 = -1"
        + " | paper 0 = 15:8,0,0; | paper 1 = 0:9,7,0; | house 0 = 1 | row = 2+ 1- | way 1 1 7 5 = -1");
    says(22, "all but the SLIP and what is counted in house() 3 and 4 is as it was", "cross 0 3 | write 12 | hand 0 1 refused | knock | undo = 0 | ofPuppet 0 2 = 2 | slip = 12 | house 5 = 2 | house 3 = 1 | house 4 = 1"
        + " | new | type 1 | cross 0 3 | wipe | undo | slip = | hand 0 1 refused | knock = 1 | cross 0 3 | undo | house 3 = 1");
    says(22, "A method that throws an exception changes nothing.", "cross 0 4 | 7 * cross 0 3 | cross 0 6 | cross 0 8 ! Argument | cross 2 0 ! Index | unjoint 0 ! State | unkey 0 0 ! State | undo = 7 | ofPuppet 0 2 = 3");
  }

  private static String withSecondPuppet(String run) {
    return run.replaceAll("\\b(joint|unjoint|weight|string|cut|let|pull|cross|tilt|mirror|key|unkey|tear|hand|read) 0", "$1 1").replace("hand 1 0", "hand 1 1");
  }

  private static void toldPoses() {
    says(24, "each JOINT's x, \",\" and y, with \" \" between", "pose 0 = 0,0 | joint 0 0 1 1 | pose 0 = 0,0 1,0 | joint 0 0 2 0 | joint 0 2 4 0 | pose 0 = 0,0 1,0 1,1 1,3 | pose 2 ! Index | pose -1 ! Index");
    says(24, "\"-\" without one.", "string 0 2 0 1 | pose 0 = - | pose 1 = 0,0 | let 0 0 2 | pose 0 = 2,5");
    says(24, "x 0 to 7 from the left, y 0 to 5 from the floor (0) up", "cross 0 7 | string 0 2 0 2 | pose 0 = 7,5 | cross 0 0 | pose 0 = 0,5 | let 0 0 7 | pose 0 = 0,0 | cross 0 7 | pose 0 = 7,0"
        + " | new | joint 0 0 4 0 | cross 0 7 | weight 0 0 9 | string 0 2 0 2 | pose 0 = 7,5 5,5 | new | joint 0 0 4 9 | cross 0 0 | string 0 2 0 2 | pose 0 = 0,5 0,3");
    says(24, "(several may have one)", "2 * joint 0 0 1 1 | pose 0 = 0,0 1,0 1,0 | new | joint 0 0 1 1 | joint 0 1 1 1 | pose 0 = 0,0 1,0 0,0");
    says(24, "the square of how far the JOINT of each STRING is from its PEG is LET * LET or less", "cross 0 7 | string 0 4 0 5 | pose 0 = 6,3 | new | string 0 2 0 7 | pose 0 = 2,0 | let 0 0 6 | pose 0 = 2,1"
        + " | new | tilt 0 1 | cross 0 4 | string 0 0 0 0 | pose 0 = 2,5 | poses 0 0 = 1 | cross 0 1 | pose 0 = - | new | tilt 0 -1 | cross 0 5 | string 0 4 0 9 | pose 0 = 0,0 | let 0 0 8 | pose 0 = 1,0");
    says(24, "that with the least HEIGHT, of several the first by x of the JOINT 0, then its y", "weight 0 0 0 | string 0 2 0 5 | pose 0 = 0,3 | weight 0 0 1 | pose 0 = 2,2 | let 0 0 9 | pose 0 = 0,0 | weight 0 0 0 | pose 0 = 0,0");
    says(24, "then x and y of the JOINT 1, and so on (smaller numbers first)", "joint 0 0 1 0 | pose 0 = 0,0 0,1 | joint 0 0 1 0 | pose 0 = 0,0 0,1 0,1 | weight 0 2 1 | pose 0 = 0,0 0,1 1,0 | weight 0 1 1 | pose 0 = 0,0 1,0 1,0"
        + " | new | weight 0 0 0 | joint 0 0 4 1 | string 0 2 1 5 | pose 0 = 0,2 2,2 | joint 0 1 4 0 | pose 0 = 0,2 2,2 0,2 | joint 0 2 5 0 | pose 0 = 0,2 2,2 0,2 1,0");
    says(24, "There may be none.", "cross 0 0 | string 0 0 0 9 | string 0 4 0 9 | pose 0 = 0,0 | let 0 0 2 | pose 0 = -");
    says(27, "whether x, otherwise y", "cross 0 7 | string 0 2 0 4 | joint 0 0 5 3 | pose 0 = 7,3 6,1 | place 0 0 1 = 7 | place 0 0 0 = 3 | place 0 1 1 = 6 | place 0 1 0 = 1");
    says(27, "Returns that in the told POSE; NONE without one.", "string 0 2 0 1 | place 0 0 1 = -1 | place 0 0 0 = -1 | let 0 0 2 | place 0 0 1 = 2");
    says(27, "NONE is -1.", "string 0 2 0 1 | ofString 0 0 3 = -1 | ofJoint 0 0 0 = -1 | fault = -1 | place 0 0 1 = -1 | height 0 = -1 | carries 0 0 = -1 | falls 0 0 = -1 | pulls 0 0 0 7 5 = -1 | way 0 0 0 0 = -1 | table 0 0 0 = -1 | clash = -1"
        + " | let 0 0 2 | feet 1 0 0 = -1 | tear 0 0 15 | period 0 = -1");
    says(27, "Throws `IndexOutOfBoundsException` if there is no such PUPPET or JOINT", "place 0 1 1 ! Index | place 0 -1 1 ! Index | place 2 0 0 ! Index | place -1 0 1 ! Index | joint 0 0 1 1 | place 0 1 1 = 1 | place 1 1 1 ! Index");
    says(28, "Returns HEIGHT of the told POSE; NONE without one.", "height 0 = 0 | string 0 2 0 2 | height 0 = 5 | let 0 0 1 | height 0 = -1 | weight 0 0 0 | height 0 = -1 | let 0 0 2 | height 0 = 0 | height 2 ! Index | height -1 ! Index");
  }

  private static void toldAtMoments() {
    says(25, "Returns POSE at that MOMENT, likewise.", "string 0 2 0 2 | key 0 0 | let 0 0 7 | key 0 15 | at 0 0 = 2,5 | at 0 15 = 2,0 | at 0 14 = 2,1 | let 0 0 1 | key 0 15 | at 0 15 = - | at 0 14 = - | at 0 1 = - | at 0 0 = 2,5"
        + " | at 1 0 = 0,0");
    says(25, "Throws `IllegalArgumentException` if moment is not 0 to 15", "at 0 16 ! Argument | at 0 -1 ! Argument | at 2 16 ! Index | at -1 0 ! Index | at 0 0 = 0,0 | at 0 15 = 0,0");
    says(25, "without the STRINGS that TORE then or ahead", "string 0 2 0 2 | string 0 2 0 5 | tear 0 0 3 | tear 0 1 4 | at 0 2 = 2,5 | at 0 3 = 2,2 | at 0 4 = 0,0 | at 0 15 = 0,0");
    says(26, "those of the KEY there", "string 0 2 0 9 | key 0 0 | let 0 0 3 | key 0 1 | let 0 0 5 | key 0 15 | lets 0 0 = 9 0 0 | lets 0 1 = 3 0 0 | lets 0 15 = 5 0 0");
    says(26, "ahead of the first KEY those of the first one, behind the last those of the last one", "string 0 2 0 9 | key 0 4 | let 0 0 3 | key 0 6 | let 0 0 1 | lets 0 0 = 9 0 0 | lets 0 3 = 9 0 0 | lets 0 4 = 9 0 0 | lets 0 5 = 6 0 0"
        + " | lets 0 6 = 3 0 0 | lets 0 7 = 3 0 0 | lets 0 15 = 3 0 0 | new | string 0 2 0 9 | key 0 15 | let 0 0 1 | lets 0 0 = 9 0 0 | lets 0 15 = 9 0 0 | new | string 0 2 0 8 | key 0 0 | let 0 0 1 | lets 0 15 = 8 0 0");
    says(26, "without KEYS those that the STRINGS have now (0 where none is)", "lets 0 0 = 0 0 0 | string 0 2 0 9 | lets 0 15 = 9 0 0 | string 0 2 0 8 | string 0 2 0 7 | lets 0 0 = 9 8 7 | tear 0 0 0 | lets 0 0 = 9 8 7 | lets 1 0 = 0 0 0 | cut 0 0 | lets 0 0 = 8 7 0");
    says(26, "what is divided is rounded down", "write 0:0,0,5;2:9,1,0; | read 0 | lets 0 1 = 4 0 2 | write 0:0,9,1;15:1,0,0; | read 0 | lets 0 1 = 0 8 0 | lets 0 14 = 0 0 0 | lets 0 15 = 1 0 0");
    says(26, "(what is divided rounded down, below 0, too)", "write 0:9,1,8;2:0,0,5; | read 0 | lets 0 1 = 4 0 6 | write 0:9,0,1;4:2,0,0; | read 0 | lets 0 1 = 7 0 0 | lets 0 2 = 5 0 0 | lets 0 3 = 3 0 0 | lets 0 4 = 2 0 0");
    says(26, "p + (q - p) * (MOMENT - a) / (b - a)", "write 3:9,0,4;6:0,9,4; | read 0 | lets 0 3 = 9 0 4 | lets 0 4 = 6 3 4 | lets 0 5 = 3 6 4 | lets 0 6 = 0 9 4 | write 2:1,0,0;3:9,0,0;5:1,0,0; | read 0 | lets 0 4 = 5 0 0");
    says(26, "Returns the LETS of all three at that MOMENT, with \" \" between.", "key 0 0 | lets 0 0 = 0 0 0 | lets 0 16 ! Argument | lets 0 -1 ! Argument | lets 2 16 ! Index | lets -1 0 ! Index | write 7:9,9,9; | read 0 | lets 0 0 = 9 9 9");
  }

  private static void countedPoses() {
    says(29, "Returns how many POSES there are.", "poses 0 0 = 48 | 3 * joint 0 0 1 1 | poses 0 0 = 2108 | new | string 0 2 0 2 | poses 0 0 = 1 | let 0 0 1 | poses 0 0 = 0 | poses 0 1 = 0 | poses 1 0 = 48 | poses 2 0 ! Index | poses -1 1 ! Index");
    says(29, "whether those alone that have the SHADOW of the told one", "poses 0 1 = 6 | string 0 2 0 2 | poses 0 1 = 1 | let 0 0 3 | poses 0 0 = 6 | poses 0 1 = 2 | new | joint 0 0 4 1 | poses 0 1 = 12 | new | joint 0 0 1 0 | poses 0 1 = 10"
        + " | new | joint 0 0 4 1 | joint 0 1 4 1 | joint 0 2 4 1 | cross 0 7 | string 0 2 3 7 | pose 0 = 1,0 3,0 5,0 7,0 | poses 0 1 = 8 | shadow 0 0 = 254");
    says(29, "the set of all x from the smaller one to the greater one of both ends of each ROD, and x of the JOINT 0", "weight 0 0 0 | joint 0 0 4 0 | joint 0 0 4 1 | pose 0 = 0,0 0,2 2,0 | poses 0 1 = 44");
  }

  private static void slackAndCarried() {
    says(30, "A set is the sum of 2^k for each number k in it.", "slack 0 = 0 | string 0 2 0 9 | slack 0 = 1 | ofJoint 0 0 3 = 1 | string 0 2 0 9 | slack 0 = 3 | ofJoint 0 0 3 = 3 | string 0 2 0 9 | slack 0 = 7 | ofJoint 0 0 3 = 7 | falls 0 2 = 0 | let 0 0 2 | slack 0 = 6 | falls 0 0 = 1"
        + " | shadow 0 0 = 4 | cross 0 7 | shadow 0 0 = 128");
    says(30, "(without a POSE none is)", "string 0 2 0 1 | string 0 2 0 9 | slack 0 = 0 | let 0 0 2 | slack 0 = 2 | slack 1 = 0 | slack 2 ! Index | slack -1 ! Index");
    says(30, "it is, if with it and those that are SLACK ahead of it cut, and nothing else, the told POSE is the same", "string 0 2 0 5 | slack 0 = 0 | string 0 2 0 5 | slack 0 = 1 | string 0 2 0 5 | slack 0 = 3 | let 0 0 4 | slack 0 = 6"
        + " | let 0 0 9 | slack 0 = 3 | let 0 2 9 | slack 0 = 5 | let 0 1 9 | slack 0 = 7 | cut 0 0 | slack 0 = 3");
    says(30, "Returns the set of SLACK STRINGS.", "slack 0 = 0 | string 0 2 0 7 | carries 0 0 = 0 | slack 0 = 0 | let 0 0 9 | slack 0 = 1 | string 0 2 0 4 | slack 0 = 1 | string 0 2 0 8 | slack 0 = 5");
    says(31, "Returns what it CARRIES; NONE without a POSE.", "string 0 2 0 1 | carries 0 0 = -1 | let 0 0 2 | carries 0 0 = 5 | weight 0 0 9 | carries 0 0 = 45 | weight 0 0 0 | carries 0 0 = 0 | weight 0 0 1 | let 0 0 7 | carries 0 0 = 0");
    says(31, "HEIGHT of the told POSE, less that of the told POSE with just this one cut.", "string 0 2 0 4 | string 0 2 0 4 | carries 0 0 = 0 | carries 0 1 = 0 | let 0 1 5 | carries 0 0 = 1 | carries 0 1 = 0 | tear 0 0 0 | carries 0 0 = 1");
    says(31, "NONE without a POSE.", "string 0 2 0 1 | string 0 2 0 1 | carries 0 0 = -1 | let 0 1 2 | carries 0 0 = -1 | carries 0 1 = -1 | let 0 0 9 | carries 0 0 = 0 | carries 0 1 = 5 | string 0 2 0 2 | cut 0 1 | carries 0 1 = 5 | carries 0 0 = 0 | cut 0 1 | pose 0 = 0,0 | carries 0 0 = 0");
    says(31, "with just this one cut", "string 0 1 0 9 | string 0 2 0 9 | string 0 3 0 3 | carries 0 0 = 0 | carries 0 1 = 0 | carries 0 2 = 4 | let 0 1 3 | pose 0 = 1,5 | carries 0 0 = 0 | carries 0 1 = 1 | carries 0 2 = 1");
    says(31, "Throws `IndexOutOfBoundsException` if there is no such PUPPET or STRING", "carries 0 0 ! Index | string 0 2 0 4 | carries 0 1 ! Index | carries 0 -1 ! Index | carries 1 0 ! Index | carries 2 0 ! Index");
    says(33, "NONE without a POSE. Throws `IndexOutOfBoundsException` if there is no such PUPPET or STRING", "falls 0 0 ! Index | string 0 2 0 1 | falls 0 0 = -1 | let 0 0 2 | falls 0 0 = 1 | falls 0 1 ! Index | falls 0 -1 ! Index | falls 1 0 ! Index | falls 2 0 ! Index");
    says(33, "Returns the set of JOINTS that are elsewhere in the told POSE, if just that STRING were cut", "string 0 2 0 9 | falls 0 0 = 0 | let 0 0 7 | falls 0 0 = 1 | 3 * joint 0 0 1 1 | falls 0 0 = 1 | cross 0 4 | falls 0 0 = 15"
        + " | new | joint 0 0 1 1 | string 0 0 1 8 | falls 0 0 = 0 | let 0 0 7 | pose 0 = 1,0 0,0 | falls 0 0 = 3 | let 0 0 6 | pose 0 = 0,0 0,1 | falls 0 0 = 2 | cut 0 0 | string 0 2 1 6 | pose 0 = 2,0 2,1 | falls 0 0 = 3 | string 0 2 1 6 | falls 0 0 = 0 | falls 0 1 = 0"
        + " | new | string 0 2 0 9 | string 0 2 0 9 | string 0 2 0 2 | falls 0 0 = 0 | falls 0 1 = 0 | falls 0 2 = 1 | let 0 1 2 | falls 0 2 = 0 | let 0 2 3 | falls 0 1 = 1");
  }

  private static void balanced() {
    says(32, "\"-\" without one, or without a POSE", "balance 0 = - | string 0 2 0 7 | balance 0 = 0:1/7 | let 0 0 1 | balance 0 = - | let 0 0 9 | balance 0 = - | balance 2 ! Index | balance -1 ! Index");
    says(32, "\"\" if all WEIGHTS are 0 (and there is a POSE)", "weight 0 0 0 | balance 0 = | string 0 2 0 2 | balance 0 = | let 0 0 1 | balance 0 = - | joint 0 0 1 0 | balance 0 = - | let 0 0 2 | balance 0 = | weight 0 1 1 | balance 0 = 0:1/2");
    says(32, "Fractions are told in lowest terms, the upper number, and, if the lower one is not 1, \"/\" and that.", "string 0 2 0 3 | pose 0 = 2,4 | balance 0 = 0:1/3 | weight 0 0 2 | balance 0 = 0:2/3 | weight 0 0 3 | balance 0 = 0:1"
        + " | weight 0 0 6 | balance 0 = 0:2 | weight 0 0 9 | balance 0 = 0:3 | let 0 0 7 | balance 0 = 0:9/7 | weight 0 0 7 | balance 0 = 0:1 | let 0 0 5 | balance 0 = 0:7/5 | let 0 0 6 | weight 0 0 9 | balance 0 = 0:3/2");
    says(32, "together 0 sideways and the sum of all WEIGHTS up", "joint 0 0 1 2 | string 0 2 0 3 | pose 0 = 2,4 2,3 | balance 0 = 0:1 | new | string 0 1 0 4 | string 0 4 0 4 | pose 0 = 2,4 | weight 0 0 5 | balance 0 = 0:10/9 1:5/9"
        + " | weight 0 0 9 | balance 0 = 0:2 1:1");
    says(32, "pulls above 0 of STRINGS", "tilt 0 1 | cross 0 4 | string 0 0 0 0 | pose 0 = 2,5 | balance 0 = - | string 0 0 0 0 | balance 0 = - | new | tilt 0 1 | cross 0 4 | string 0 0 0 1 | string 0 4 0 5 | pose 0 = 3,5 | balance 0 = 0:3/4 1:1/4"
        + " | cut 0 1 | pose 0 = 2,4 | balance 0 = 0:1");
    says(32, "Where one of several is taken and nothing else is said, it is that with the smallest number.", "string 0 2 0 7 | string 0 2 0 8 | balance 0 = 0:1/7 | slack 0 = 2 | let 0 1 7 | slack 0 = 1");
    says(32, "pulls above 0 of STRINGS, along each from its JOINT to its PEG", "joint 0 0 1 0 | tilt 0 1 | string 0 1 1 5 | string 0 3 0 4 | string 0 0 0 2 | pose 0 = 1,5 0,5 | balance 0 = 0:1 2:1"
        + " | new | weight 0 0 0 | joint 0 0 5 1 | joint 0 0 4 0 | tilt 0 -1 | string 0 4 0 1 | string 0 4 2 1 | pose 0 = 3,5 2,3 5,5 | balance 0 = - | new | weight 0 0 2 | tilt 0 -1 | string 0 4 0 1 | string 0 2 0 3 | pose 0 = 3,5 | balance 0 = 0:1 1:1"
        + " | new | tilt 0 -1 | string 0 1 0 4 | string 0 3 0 2 | pose 0 = 2,5 | balance 0 = 0:1/4 1:1/4 | mirror 0 | pose 0 = 4,5 | balance 0 = 1:1");
    says(32, "of the first STRING that does so alone, its pull", "3 * string 0 2 0 7 | balance 0 = 0:1/7 | cut 0 0 | mirror 0 | mirror 0 | balance 0 = 0:1/7 | new | string 0 1 0 9 | string 0 2 0 7 | string 0 3 0 9 | pose 0 = 2,0 | balance 0 = 1:1/7"
        + " | new | string 0 1 0 9 | string 0 3 0 9 | string 0 2 0 7 | balance 0 = 2:1/7");
    says(32, "of the first two STRINGS (by the smaller number, then by the other one)", "string 0 0 0 9 | string 0 1 0 4 | string 0 4 0 4 | pose 0 = 2,4 | balance 0 = 0:1/6 2:1/6 | new | string 0 0 0 9 | string 0 4 0 4 | string 0 1 0 4"
        + " | balance 0 = 0:1/6 1:1/6 | new | string 0 4 0 4 | string 0 3 0 9 | string 0 1 0 4 | pose 0 = 2,4 | balance 0 = 0:1/9 2:2/9 | new | string 0 1 0 4 | string 0 4 0 4 | string 0 3 0 9 | balance 0 = 0:2/9 1:1/9");
    says(32, "one with dx above 0 and one with dx below 0", "joint 0 0 1 1 | cross 0 7 | string 0 0 0 5 | string 0 1 0 5 | pose 0 = 3,3 3,2 | balance 0 = - | string 0 2 0 9 | balance 0 = - | new | joint 0 0 1 1 | cross 0 0 | string 0 4 0 5 | string 0 3 0 5"
        + " | pose 0 = 0,3 0,2 | balance 0 = -");
  }

  private static void reachedPlaces() {
    says(34, "Returns how many unlike PLACES the JOINT has in the told POSES with LET 0 to 9 of that STRING, all else as it is.", "tilt 0 -1 | cross 0 5 | string 0 4 0 4 | reach 0 0 0 = 10 | cross 0 4 | reach 0 0 0 = 9 | new | string 0 2 0 1"
        + " | reach 0 0 0 = 7 | string 0 2 0 1 | reach 0 0 0 = 0 | let 0 1 2 | reach 0 0 0 = 1 | tear 0 1 0 | reach 0 0 0 = 1 | ofString 0 0 2 = 1");
    says(34, "Throws `IndexOutOfBoundsException` if there is no such PUPPET, JOINT or STRING", "reach 0 0 0 ! Index | string 0 2 0 5 | reach 0 0 1 ! Index | reach 0 0 -1 ! Index | reach 0 1 0 ! Index | reach 0 -1 0 ! Index | reach 1 0 0 ! Index"
        + " | reach 2 0 0 ! Index | joint 0 0 1 0 | reach 0 1 0 = 7");
    says(35, "Returns by how much LET of that STRING has to become another one at least, so that the JOINT is there in the told POSE", "tilt 0 -1 | cross 0 5 | string 0 4 0 9 | pose 0 = 0,0 | pulls 0 0 0 0 0 = 0 | pulls 0 0 0 7 5 = 9"
        + " | pulls 0 0 0 1 0 = 1 | let 0 0 0 | pulls 0 0 0 0 0 = 9 | pulls 0 0 0 7 5 = 0 | let 0 0 5 | pulls 0 0 0 7 1 = 1 | pulls 0 0 0 4 0 = 1 | ofString 0 0 2 = 5"
        + " | new | string 0 2 0 9 | pulls 0 0 0 0 0 = 0 | let 0 0 7 | pulls 0 0 0 0 0 = 1 | let 0 0 5 | pulls 0 0 0 0 0 = 3 | pulls 0 0 0 2 2 = 0");
    says(34, "how many unlike PLACES the JOINT has in the told POSES with LET 0 to 9 of that STRING",
        "joint 0 0 5 1 | joint 0 1 1 0 | cross 0 7 | string 0 4 2 4 | reach 0 0 0 = 7 | reach 0 1 0 = 7 | reach 0 2 0 = 7 | new | joint 0 0 4 2 | joint 0 1 5 0 | string 0 2 0 3 | string 0 4 2 9 | reach 0 0 1 = 3 | reach 0 1 1 = 3 | reach 0 2 1 = 6");
    says(35, "with LET 0 to 9 of that STRING", "cross 0 7 | string 0 4 0 9 | pose 0 = 4,0 | reach 0 0 0 = 7 | pulls 0 0 0 4 0 = 0 | pulls 0 0 0 6 0 = 1 | pulls 0 0 0 7 5 = 6 | pulls 0 0 0 2 0 = -1 | pulls 0 0 0 0 0 = -1");
    says(35, "so that the JOINT is there in the told POSE",
        "joint 0 0 5 1 | joint 0 1 1 0 | cross 0 7 | string 0 4 2 6 | pose 0 = 4,0 6,1 6,2 | pulls 0 1 0 7 4 = 3 | pulls 0 1 0 2 1 = 3 | pulls 0 1 0 1 2 = -1 | pulls 0 1 0 6 2 = 1 | pulls 0 1 0 6 1 = 0 | pulls 0 2 0 6 2 = 0 | pulls 0 2 0 6 3 = 1 | pulls 0 2 0 3 2 = 2 | pulls 0 2 0 2 2 = 3 | pulls 0 2 0 7 5 = 3 | pulls 0 2 0 6 1 = -1 | pulls 0 0 0 4 0 = 0");
    says(35, "NONE if it never is.", "string 0 2 0 5 | pulls 0 0 0 7 5 = -1 | pulls 0 0 0 1 0 = -1 | string 0 2 0 1 | pulls 0 0 0 2 2 = -1 | pulls 0 0 1 2 5 = 1");
    says(35, "Throws `IllegalArgumentException` if x is not 0 to 7, or y not 0 to 5", "string 0 2 0 5 | pulls 0 0 0 8 0 ! Argument | pulls 0 0 0 -1 0 ! Argument | pulls 0 0 0 0 6 ! Argument | pulls 0 0 0 0 -1 ! Argument | pulls 0 1 0 8 0 ! Index"
        + " | pulls 0 0 1 0 6 ! Index | pulls 2 0 0 8 6 ! Index | pulls 0 0 0 7 5 = -1 | pulls 0 0 0 0 0 = 3");
  }

  private static void ways() {
    says(36, "how many steps from PLACE to PLACE (up, down, left, right, on the STAGE) lead from where the JOINT is in the told POSE to that one at least", "way 0 0 0 0 = 0 | way 0 0 0 1 = 1 | way 0 0 1 0 = 1 | way 0 0 1 1 = 2 | way 0 0 7 5 = 12"
        + " | way 0 0 7 0 = 7 | way 0 0 0 5 = 5 | new | cross 0 7 | string 0 2 0 2 | way 0 0 0 0 = 12 | way 0 0 7 5 = 0 | way 0 0 7 4 = 1 | way 0 0 6 5 = 1 | joint 0 0 1 9 | way 0 1 7 4 = 0 | way 0 1 0 0 = 11");
    says(36, "none to a PLACE with a THING (where it is may have one)", "thing 0 0 | way 0 0 0 0 = 0 | way 0 0 7 5 = 12 | thing 7 5 | way 0 0 7 5 = -1 | thing 7 5 | thing 0 1 | way 0 0 0 2 = 4 | way 0 0 0 1 = -1");
    says(36, "NONE without a way, or a POSE.", "thing 0 1 | thing 1 0 | way 0 0 7 5 = -1 | way 0 0 0 0 = 0 | thing 1 0 | way 0 0 7 5 = 12 | thing 6 5 | thing 7 4 | way 0 0 7 5 = -1 | way 0 0 7 3 = 10 | string 0 2 0 1 | way 0 0 0 0 = -1 | way 0 0 2 5 = -1");
    says(36, "Throws `IllegalArgumentException` if x is not 0 to 7, or y not 0 to 5", "way 0 0 8 0 ! Argument | way 0 0 -1 0 ! Argument | way 0 0 0 6 ! Argument | way 0 0 0 -1 ! Argument | way 0 1 8 0 ! Index | way 0 -1 0 6 ! Index | way 2 0 8 0 ! Index");
  }

  private static void free() {
    says(37, "Throws `IllegalArgumentException` if moment is not 0 to 14", "isFree 0 15 ! Argument | isFree 0 -1 ! Argument | isFree 2 15 ! Index | isFree -1 0 ! Index | isFree 0 0 = true | isFree 0 14 = true");
    says(37, "a MOMENT, but 15 Returns whether it is FREE between that and the next one.", "isFree 0 14 = true | isFree 0 15 ! Argument | string 0 2 0 2 | key 0 14 | let 0 0 1 | key 0 15 | isFree 0 14 = false | isFree 0 13 = true | isFree 0 0 = true");
    says(37, "there are POSES at both", "string 0 2 0 2 | key 0 0 | key 0 2 | let 0 0 1 | key 0 1 | isFree 0 0 = false | isFree 0 1 = false | isFree 0 2 = true | key 0 15 | let 0 0 2 | key 0 14 | isFree 0 14 = false | isFree 0 13 = true");
    String rods = "in neither of them two RODS without a JOINT in common meet (two stretches that have a point in common)";
    apart(false, rods, "weight 0 0 2 | joint 0 0 5 1 | joint 0 0 2 0 | joint 0 2 1 0 | string 0 1 1 5 | tear 0 0 1", "0,0 1,2 1,1 0,1", "0,0 2,1 1,1 0,1");
    apart(false, rods, "weight 0 0 2 | joint 0 0 5 0 | joint 0 1 1 0 | joint 0 2 2 0 | string 0 4 2 3 | tear 0 0 1", "3,1 4,3 4,4 3,3", "0,0 1,2 0,2 1,1");
    apart(false, rods, "joint 0 0 5 0 | joint 0 0 2 0 | joint 0 2 5 0 | string 0 4 3 6 | tear 0 0 1", "0,0 1,2 1,1 0,3", "0,0 1,2 1,1 0,3");
    apart(true, rods, "weight 0 0 0 | joint 0 0 2 0 | joint 0 1 5 0 | joint 0 2 1 0 | string 0 4 3 8 | tear 0 0 1", "0,0 1,1 0,3 0,2", "0,0 1,1 0,3 0,2");
    apart(true, rods, "weight 0 0 2 | joint 0 0 1 0 | joint 0 0 2 0 | joint 0 2 5 0 | string 0 2 1 7 | tear 0 0 1", "0,0 0,1 1,1 0,3", "0,0 0,1 1,1 0,3");
    apart(true, rods, "weight 0 0 2 | joint 0 0 1 0 | joint 0 0 1 0 | joint 0 2 4 1 | string 0 2 1 2 | tear 0 0 1", "2,4 2,5 2,3 2,1", "0,0 0,1 1,0 3,0");
    apart(true, "two RODS without a JOINT in common", "joint 0 0 1 1 | joint 0 0 1 0", "0,0 1,0 0,1", "0,0 1,0 0,1");
    String stays = "(one point, if it stays)";
    apart(false, stays, "weight 0 0 0 | joint 0 0 4 1 | joint 0 0 1 0 | string 0 0 1 5 | tear 0 0 1", "0,0 0,2 0,1", "0,0 2,0 0,1");
    apart(false, stays, "joint 0 0 4 0 | joint 0 0 1 0 | string 0 1 1 4 | tear 0 0 1", "1,1 1,3 0,1", "0,0 0,2 0,1");
    apart(false, stays, "weight 0 0 2 | joint 0 0 4 0 | joint 0 1 1 0 | string 0 1 0 8 | tear 0 0 1", "0,0 0,2 0,1", "0,0 0,2 0,1");
    apart(true, stays, "weight 0 0 0 | joint 0 0 1 0 | joint 0 1 4 0 | string 0 2 2 6 | tear 0 0 1", "0,0 0,1 0,3", "0,0 0,1 0,3");
    apart(true, stays, "weight 0 0 0 | joint 0 0 5 2 | joint 0 1 1 1 | tilt 0 -1 | string 0 4 0 7 | tear 0 0 1", "0,1 2,0 1,0", "0,1 2,0 1,0");
    String moves = "meets no ROD without that JOINT, in neither of both POSES";
    apart(false, moves, "joint 0 0 1 0 | joint 0 0 2 0 | string 0 1 1 2 | tear 0 0 1", "1,4 1,5 0,3", "0,0 0,1 1,1");
    apart(false, moves, "joint 0 0 2 0 | joint 0 0 1 0 | string 0 3 0 7 | tear 0 0 1", "3,0 2,1 2,0", "0,0 1,1 0,1");
    apart(false, moves, "joint 0 0 1 0 | joint 0 1 4 0 | string 0 4 0 7 | tear 0 0 1", "4,0 3,0 1,0", "0,0 0,1 0,3");
    apart(false, moves, "weight 0 0 2 | joint 0 0 4 0 | joint 0 0 1 0 | string 0 1 0 7 | tear 0 0 1", "1,0 1,2 0,0", "0,0 0,2 0,1");
    apart(true, moves, "weight 0 0 0 | joint 0 0 5 0 | joint 0 0 4 0 | string 0 0 0 2 | tear 0 0 1", "0,5 1,3 0,3", "0,0 1,2 0,2");
    apart(true, moves, "joint 0 0 4 0 | joint 0 0 2 0 | string 0 4 0 5 | tear 0 0 1", "4,2 2,2 3,1", "0,0 0,2 1,1");
    apart(true, moves, "weight 0 0 2 | joint 0 0 1 0 | joint 0 1 4 0 | string 0 1 0 3 | tear 0 0 1", "1,4 0,4 0,2", "0,0 0,1 0,3");
    apart(true, moves, "weight 0 0 0 | joint 0 0 4 0 | string 0 2 1 4 | tear 0 0 1", "0,2 0,4", "0,0 0,2");
    String ends = "(Ends belong to stretches.)";
    apart(false, ends, "weight 0 0 2 | joint 0 0 5 0 | joint 0 0 4 0 | string 0 0 2 3 | tear 0 0 1", "0,2 1,0 0,4", "0,0 1,2 0,2");
    apart(false, ends, "weight 0 0 0 | joint 0 0 1 0 | joint 0 1 2 0 | string 0 2 2 5 | tear 0 0 1", "0,1 0,2 1,3", "0,0 0,1 1,0");
    apart(false, ends, "weight 0 0 2 | joint 0 0 1 0 | joint 0 1 4 0 | string 0 1 2 3 | key 0 0 | let 0 0 2 | key 0 1", "1,1 1,2 1,4", "1,2 1,3 1,5");
    apart(false, ends, "weight 0 0 2 | joint 0 0 1 0 | joint 0 1 4 0 | string 0 3 0 6 | tear 0 0 1", "3,1 2,1 0,1", "0,0 0,1 0,3");
    apart(false, ends, "joint 0 0 1 0 | joint 0 1 4 0 | string 0 1 1 3 | tear 0 0 1", "1,3 1,4 1,2", "0,0 0,1 0,3");
    apart(false, ends, "weight 0 0 2 | joint 0 0 2 0 | joint 0 1 4 0 | string 0 0 2 2 | tear 0 0 1", "1,2 0,3 0,5", "0,0 1,1 1,3");
    apart(false, ends, "weight 0 0 0 | joint 0 0 1 0 | joint 0 0 2 0 | string 0 2 1 3 | tear 0 0 1", "0,4 0,5 1,3", "0,0 0,1 1,1");
    apart(false, ends, "weight 0 0 2 | joint 0 0 4 0 | joint 0 0 5 0 | string 0 3 1 5 | tear 0 0 1", "3,0 3,2 1,1", "0,0 0,2 1,2");
  }

  /** Stretches that cross, each the only ones of their run: both ways round, near to an end and far from it. */
  private static void crossings() {
    String[] ofRods = {
      "joint 0 0 4 1 | joint 0 0 5 2 | joint 0 1 2 0 | string 0 1 2 5 | tear 0 0 1 / 0,0 2,0 1,2 1,1 / 0,0 2,0 2,1 1,1",
      "weight 0 0 2 | joint 0 0 5 2 | joint 0 1 4 1 | joint 0 2 2 0 | string 0 3 0 5 | tear 0 0 1 / 3,2 2,0 0,0 1,1 / 0,1 2,0 0,0 1,1",
      "weight 0 0 2 | joint 0 0 2 1 | joint 0 1 5 2 | joint 0 0 5 2 | string 0 3 1 2 | tear 0 0 1 / 2,4 3,5 2,3 1,2 / 0,0 1,1 3,0 2,1",
      "weight 0 0 2 | joint 0 0 2 0 | joint 0 0 1 2 | joint 0 2 5 1 | string 0 0 3 5 | tear 0 0 1 / 0,0 1,1 1,0 0,2 / 0,0 1,1 1,0 3,1",
      "joint 0 0 5 0 | joint 0 1 4 2 | joint 0 2 5 0 | string 0 4 3 3 | tear 0 0 1 / 0,0 1,2 3,2 4,4 / 0,0 1,2 1,0 0,2",
      "weight 0 0 2 | joint 0 0 5 0 | joint 0 0 2 0 | joint 0 2 5 0 | string 0 4 3 5 | tear 0 0 1 / 0,0 1,2 1,1 2,3 / 0,0 1,2 1,1 0,3",
      "weight 0 0 2 | joint 0 0 4 2 | joint 0 1 5 2 | joint 0 0 2 1 | string 0 1 2 5 | tear 0 0 1 / 0,0 2,0 1,2 1,1 / 0,0 2,0 0,1 1,1",
      "weight 0 0 2 | joint 0 0 1 2 | joint 0 1 5 1 | joint 0 0 5 1 | string 0 2 2 5 | tear 0 0 1 / 0,0 1,0 2,2 2,1 / 0,0 1,0 3,1 2,1",
      "joint 0 0 2 1 | joint 0 1 5 0 | joint 0 0 5 0 | string 0 4 2 5 | tear 0 0 1 / 0,0 1,1 2,3 1,2 / 0,0 1,1 0,3 1,2",
      "joint 0 0 2 1 | joint 0 0 1 2 | joint 0 2 5 2 | string 0 1 3 4 | tear 0 0 1 / 0,0 1,1 0,1 1,3 / 0,0 1,1 0,1 2,0",
      "joint 0 0 4 1 | joint 0 1 5 0 | joint 0 0 5 2 | string 0 3 2 5 | tear 0 0 1 / 0,0 2,0 3,2 2,1 / 0,0 2,0 0,1 2,1",
      "joint 0 0 2 2 | joint 0 0 5 1 | joint 0 1 5 2 | string 0 2 1 2 | tear 0 0 1 / 1,4 2,5 0,2 1,3 / 0,0 1,1 2,1 3,0"};
    for (String one : ofRods) {
      String[] parts = one.split(" / ");
      apart(false, "in neither of them two RODS without a JOINT in common meet", parts[0], parts[1], parts[2]);
    }
    String[] ofMoves = {
      "joint 0 0 2 0 | joint 0 0 1 1 | string 0 0 0 5 | tear 0 0 1 / 0,2 1,1 0,1 / 0,0 1,1 1,0",
      "weight 0 0 0 | joint 0 0 5 2 | joint 0 1 4 0 | string 0 0 0 2 | tear 0 0 1 / 0,5 1,3 1,1 / 0,1 2,0 0,0",
      "weight 0 0 0 | joint 0 0 5 0 | joint 0 0 4 2 | string 0 1 1 2 | tear 0 0 1 / 0,3 1,5 0,1 / 0,0 1,2 2,0",
      "joint 0 0 1 2 | joint 0 1 2 2 | string 0 2 1 5 | tear 0 0 1 / 2,1 2,2 1,1 / 0,0 0,1 1,0",
      "joint 0 0 4 0 | joint 0 1 2 2 | string 0 1 2 5 | tear 0 0 1 / 0,1 0,3 1,2 / 0,1 2,1 1,0",
      "joint 0 0 1 0 | joint 0 0 2 2 | string 0 4 0 6 | tear 0 0 1 / 4,1 3,1 3,0 / 0,1 0,0 1,0",
      "weight 0 0 2 | joint 0 0 2 0 | joint 0 0 1 1 | string 0 3 2 6 | tear 0 0 1 / 3,0 2,1 3,1 / 0,0 1,1 1,0",
      "joint 0 0 1 1 | joint 0 1 5 0 | string 0 0 2 3 | tear 0 0 1 / 1,1 1,2 0,4 / 0,0 1,0 0,2",
      "weight 0 0 0 | joint 0 0 5 0 | joint 0 0 2 2 | string 0 2 2 4 | tear 0 0 1 / 1,2 0,0 2,3 / 0,1 1,3 1,0",
      "joint 0 0 4 2 | joint 0 0 5 1 | string 0 3 1 2 | tear 0 0 1 / 3,3 3,5 2,1 / 0,0 2,0 2,1",
      "weight 0 0 0 | joint 0 0 1 2 | joint 0 1 4 0 | string 0 3 2 3 | tear 0 0 1 / 2,2 3,2 3,4 / 0,0 1,0 1,2",
      "joint 0 0 4 0 | joint 0 0 5 0 | string 0 4 0 6 | tear 0 0 1 / 4,1 2,1 2,0 / 0,0 0,2 1,2"};
    for (String one : ofMoves) {
      String[] parts = one.split(" / ");
      apart(false, "the stretch from a JOINT's PLACE at the one to that at the other", parts[0], parts[1], parts[2]);
    }
  }

  /** Whether it is free between the moments 0 and 1, where these poses are. */
  private static void apart(boolean isFree, String sentence, String run, String first, String second) {
    says(37, sentence, run + " | at 0 0 = " + first + " | at 0 1 = " + second + " | isFree 0 0 = " + isFree);
  }

  private static void feetPeriodsShadows() {
    says(38, "Returns the first MOMENT at which neither of both is on the floor, or there is no POSE; NONE without one.", "feet 0 0 0 = -1 | string 0 2 0 7 | key 0 0 | key 0 14 | let 0 0 6 | key 0 15 | feet 0 0 0 = 15 | let 0 0 1 | key 0 15"
        + " | feet 0 0 0 = 15 | key 0 0 | feet 0 0 0 = 0 | let 0 0 6 | key 0 0 | feet 0 0 0 = 0 | let 0 0 7 | key 0 0 | key 0 15 | feet 0 0 0 = -1");
    says(38, "another one, or the same", "joint 0 0 1 9 | string 0 2 1 5 | pose 0 = 2,1 2,2 | feet 0 0 1 = 0 | let 0 0 6 | pose 0 = 2,0 2,1 | feet 0 0 1 = -1 | feet 0 1 1 = 0 | let 0 0 7 | feet 0 1 1 = -1 | weight 0 1 1 | cut 0 0 | string 0 2 0 6 | pose 0 = 2,1 2,0 | feet 0 0 0 = 0 | feet 0 0 1 = -1"
        + " | feet 0 1 0 = -1 | feet 0 1 1 = -1");
    says(38, "Throws `IndexOutOfBoundsException` if there is no such PUPPET or JOINT", "feet 0 1 0 ! Index | feet 0 0 1 ! Index | feet 0 -1 0 ! Index | feet 0 0 -1 ! Index | feet 2 0 0 ! Index | joint 0 0 1 1 | feet 0 1 1 = -1 | feet 1 1 0 ! Index");
    for (int n = 1; n <= 9; n++) {
      StringBuilder b = new StringBuilder("string 0 2 0 7");
      for (int moment = 0; moment < 16; moment++) {
        b.append(" | let 0 0 ").append(moment % n == 0 ? 2 : 3).append(" | key 0 ").append(moment);
      }
      says(39, "Returns the least number n of 1 to 8", b + " | period 0 = " + (n <= 8 ? n : -1));
    }
    says(39, "at each MOMENT up to 15 - n what at() tells is the same as n later", "period 0 = 1 | string 0 2 0 2 | tear 0 0 15 | period 0 = -1 | tear 0 0 0 | period 0 = 1 | tear 0 0 1 | period 0 = -1 | tear 0 0 -1 | period 0 = 1 | let 0 0 1 | period 0 = 1"
        + " | let 0 0 2 | key 0 0 | let 0 0 3 | key 0 1 | period 0 = -1 | period 2 ! Index | period -1 ! Index");
    says(40, "Returns SHADOW of the POSE at that MOMENT; 0 without one.", "shadow 0 0 = 1 | string 0 2 0 2 | shadow 0 0 = 4 | tear 0 0 15 | shadow 0 14 = 4 | shadow 0 15 = 1 | let 0 0 1 | shadow 0 14 = 0 | shadow 0 15 = 1 | cross 1 7 | string 1 2 0 2 | shadow 1 0 = 128");
    says(40, "Throws `IllegalArgumentException` if moment is not 0 to 15", "shadow 0 16 ! Argument | shadow 0 -1 ! Argument | shadow 2 16 ! Index | shadow -1 0 ! Index | shadow 0 0 = 1 | shadow 0 15 = 1");
    says(40, "from the smaller one to the greater one of both ends of each ROD", "joint 0 0 4 1 | shadow 0 0 = 7 | joint 0 1 1 1 | shadow 0 0 = 7 | cross 0 4 | string 0 2 0 7 | pose 0 = 4,0 2,0 1,0 | shadow 0 0 = 30 | new | joint 0 0 4 1 | joint 0 1 4 1 | joint 0 2 4 1"
        + " | cross 0 7 | string 0 2 3 7 | shadow 0 0 = 254 | new | joint 0 0 4 0 | pose 0 = 0,0 0,2 | shadow 0 0 = 1");
  }

  private static void tablesAndClashes() {
    says(41, "both ends, too, having a POSE", "string 0 2 0 2 | key 0 0 | let 0 0 9 | key 0 1 | let 0 0 1 | key 0 2 | table 0 0 1 = 7 | table 0 1 0 = 7 | table 0 0 0 = 0 | table 0 1 2 = -1 | table 0 2 1 = -1 | table 0 2 2 = -1 | table 0 2 0 = -1 | table 0 0 15 = -1");
    says(41, "(LETS of STRINGS that are not there do not count)", "write 0:1,9,9;15:9,1,1; | read 0 | table 0 0 15 = 0 | string 0 2 0 5 | table 0 0 15 = -1 | undo | write 0:2,0,0;15:9,9,9; | read 0 | string 0 2 0 5 | table 0 0 15 = 7 | string 0 2 0 5 | table 0 0 15 = -1");
    says(41, "each step making LET of one STRING (that is there) 1 more or less, towards what it has to be", "tilt 0 1 | cross 0 4 | 3 * string 0 0 0 0 | key 0 0 | let 0 0 9 | let 0 1 9 | let 0 2 9 | key 0 15 | table 0 0 15 = 27 | table 0 15 0 = 27 | table 0 15 15 = 0"
        + " | new | string 0 1 0 2 | string 0 3 0 9 | key 0 0 | let 0 0 9 | let 0 1 2 | key 0 15 | table 0 0 15 = 14 | table 0 15 0 = 14");
    says(41, "(of all STRINGS that are there, TORN or not)", "string 0 2 0 2 | key 0 0 | let 0 0 1 | key 0 15 | tear 0 0 0 | at 0 15 = 0,0 | table 0 0 15 = -1 | table 0 0 0 = 0 | table 0 15 15 = -1");
    says(41, "NONE if one can not.", "string 0 1 0 9 | string 0 3 0 2 | table 0 0 15 = 0 | key 0 0 | let 0 0 1 | key 0 15 | table 0 0 15 = -1 | table 0 15 0 = -1 | table 0 0 3 = 2 | let 0 0 3 | key 0 15 | pose 0 = 3,5 | table 0 0 15 = 6");
    says(41, "Throws `IllegalArgumentException` if from or to is not 0 to 15", "table 0 16 0 ! Argument | table 0 -1 0 ! Argument | table 0 0 16 ! Argument | table 0 0 -1 ! Argument | table 2 16 0 ! Index | table -1 0 -1 ! Index | table 0 15 0 = 0 | table 0 0 15 = 0");
    says(42, "a JOINT of the PUPPET 0 and one of 1 have the same PLACE", "string 0 2 0 7 | joint 1 0 1 1 | joint 1 0 4 1 | cross 1 3 | string 1 2 0 7 | pose 1 = 3,0 2,0 1,0 | clash = 0 | cross 0 1 | pose 0 = 1,0 | clash = 0 | cross 0 3 | clash = 0 | cross 0 4 | clash = -1 | cross 0 0 | clash = -1"
        + " | joint 0 0 1 1 | joint 0 0 5 1 | pose 0 = 0,0 1,0 2,1 | clash = 0 | cross 1 5 | clash = -1 | joint 0 2 1 1 | unjoint 1 | cross 1 3 | pose 1 = 3,0 2,0 | pose 0 = 0,0 1,0 2,1 2,0 | clash = 0");
    says(42, "Returns the first MOMENT at which a JOINT of the PUPPET 0 and one of 1 have the same PLACE; NONE without one.", "clash = 0 | string 0 2 0 7 | clash = -1 | tear 0 0 15 | clash = 15 | tear 0 0 1 | clash = 1 | tear 0 0 0 | clash = 0"
        + " | new | string 0 2 0 2 | string 1 2 0 2 | cross 1 2 | clash = 0 | tear 0 0 1 | clash = 0 | cross 1 3 | clash = -1 | tear 1 0 9 | clash = 9 | let 1 0 1 | clash = 9 | tear 1 0 -1 | clash = -1 | let 0 0 1 | let 1 0 1 | tear 0 0 -1 | clash = -1"
        + " | new | 3 * joint 0 0 1 0 | 3 * joint 1 0 1 0 | string 0 2 0 7 | string 1 2 0 7 | weight 0 3 1 | weight 1 3 1 | pose 0 = 2,0 1,0 1,0 1,0 | cross 0 3 | pose 0 = 3,0 2,0 2,0 2,0 | pose 1 = 5,0 4,0 4,0 4,0 | clash = -1 | cross 1 4 | clash = 0"
        + " | new | 2 * joint 0 0 1 0 | joint 0 0 1 9 | cross 0 7 | string 0 2 3 3 | pose 0 = 7,3 6,3 6,3 7,4 | joint 1 0 4 0 | joint 1 1 4 0 | joint 1 2 4 9 | cross 1 7 | string 1 2 3 3 | clash = 0 | unjoint 1 | clash = -1 | new | joint 0 0 4 1 | string 1 2 0 2 | clash = -1 | cross 1 2 | let 1 0 7 | clash = 0 | unjoint 0 | clash = -1");
  }

  private static void rowsAndPapers() {
    says(43, "Returns the ROW: each EXCHANGE as its k and its sign, with \" \" between; \"\" without any.", "row = | exchange 0 1 | row = 0+ | exchange 2 0 | row = 0+ 2- | exchange 1 1 | row = 0+ 2- 1+ | 3 * untwist | row ="
        + " | 20 * exchange 1 0 | row = 1- 1- 1- 1- 1- 1- 1- 1- 1- 1- 1- 1- 1- 1- 1- 1- 1- 1- 1- 1-");
    says(44, "Throws `IndexOutOfBoundsException` if there is no such place", "strand 4 ! Index | strand -1 ! Index | strand 0 = 0 | strand 3 = 3");
    says(44, "what lies at k and at k + 1 change", "exchange 0 1 | strand 0 = 1 | strand 1 = 0 | strand 2 = 2 | new | exchange 2 0 | strand 1 = 1 | strand 2 = 3 | strand 3 = 2 | new | exchange 0 1 | exchange 1 1 | exchange 2 1 | strand 0 = 1 | strand 1 = 2 | strand 2 = 3 | strand 3 = 0"
        + " | exchange 2 1 | strand 2 = 0 | strand 3 = 3");
    says(44, "(at first the one with that number), by the ROW", "strand 0 = 0 | strand 1 = 1 | strand 2 = 2 | strand 3 = 3 | exchange 1 1 | exchange 1 0 | strand 1 = 1 | 20 * exchange 1 1 | strand 1 = 1 | untwist | strand 1 = 2 | undo | strand 1 = 1");
    says(45, "KEY by KEY, by rising MOMENTS: the MOMENT, \":\", its three LETS with \",\" between, \";\"", "paper 0 = | string 0 2 0 9 | key 0 15 | paper 0 = 15:9,0,0; | key 0 0 | paper 0 = 0:9,0,0;15:9,0,0; | string 0 2 0 0 | string 0 2 0 4 | key 0 9 | key 0 10"
        + " | paper 0 = 0:9,0,0;9:9,0,4;10:9,0,4;15:9,0,0; | paper 1 = | paper 2 ! Index | paper -1 ! Index");
    StringBuilder all = new StringBuilder();
    StringBuilder due = new StringBuilder();
    for (int moment = 15; moment >= 0; moment--) {
      all.append("key 1 ").append(moment).append(" | ");
      due.insert(0, moment + ":0,0,0;");
    }
    says(45, "Returns PAPER of its TABLE.", all + "paper 1 = " + due + " | isSound = true");
    says(47, "Returns the SLIP as it is written.", "slip = | type 12 | type 0 | slip = ;0 | write 0:1,2,3;15:9,9,9;0,:;1234567890::,,;;123 | house 5 = 40 | slip = 0:1,2,3;15:9,9,9;0,:;1234567890::,,;;123 | wipe | slip =");
  }

  /** The slip's fault, and that more signs behind it do not count. */
  private static void faulty(String sentence, String slip, int place) {
    says(46, sentence, (slip.isEmpty() ? "wipe" : "write " + slip) + " | fault = " + place + " | ofPuppet 0 4 = 0");
    if (place >= 0 && place < slip.length() && slip.length() < 38) {
      run("write " + slip + "1; | fault = " + place + " | read 0 refused");
    }
  }

  private static void faults() {
    faulty("NONE otherwise (also of an empty one)", "", -1);
    faulty("NONE otherwise (also of an empty one)", "0:0,0,0;", -1);
    faulty("NONE otherwise (also of an empty one)", "0:9,9,9;9:0,0,0;10:1,1,1;15:2,2,2;", -1);
    faulty("NONE otherwise (also of an empty one)", "1:0,0,0;2:0,0,0;3:0,0,0;4:0,0,0;5:9,9,9;", -1);
    String ends = "how many SIGNS there are, if it ends within a KEY";
    String key = "15:1,2,3";
    for (int length = 1; length <= key.length(); length++) {
      faulty(ends, key.substring(0, length), length);
      faulty(ends, "9:1,2,3;" + key.substring(0, length), 8 + length);
    }
    faulty(ends, "1:0,0,0;2:0,0,0;3:0,0,0;4:0,0,0;15:9,9,9", 40);
    String digits = "a MOMENT has one or two digits (the first one not 0, if there are two";
    faulty(digits, "0:1,2,3;", -1);
    faulty(digits, "9:1,2,3;", -1);
    faulty(digits, "00", 1);
    faulty(digits, "05", 1);
    faulty(digits, "100", 2);
    faulty(digits, "155", 2);
    String fifteen = "up to 15: behind 1 alone a digit 0 to 5 can stand)";
    faulty(fifteen, "10:1,2,3;", -1);
    faulty(fifteen, "15:1,2,3;", -1);
    faulty(fifteen, "16", 1);
    faulty(fifteen, "19", 1);
    faulty(fifteen, "20", 1);
    faulty(fifteen, "25", 1);
    faulty(fifteen, "90", 1);
    faulty(fifteen, "15:1,2,3;16", 10);
    faulty(fifteen, "15:1,2,3;15:", 11);
    String first = "the place of the first SIGN that can not stand there";
    for (String wrongFirst : new String[] {":", ",", ";"}) {
      faulty(first, wrongFirst, 0);
      faulty(first, "0:1,2,3;" + wrongFirst, 8);
      faulty(first, "0:" + wrongFirst, 2);
      faulty(first, "0:1," + wrongFirst, 4);
      faulty(first, "0:1,2," + wrongFirst, 6);
    }
    for (String notColon : new String[] {",", ";"}) {
      faulty(first, "1" + notColon, 1);
      faulty(first, "2" + notColon, 1);
      faulty(first, "12" + notColon, 2);
    }
    for (String notComma : new String[] {":", ";", "0", "9"}) {
      faulty(first, "0:1" + notComma, 3);
      faulty(first, "0:1,2" + notComma, 5);
    }
    for (String notSemicolon : new String[] {":", ",", "0", "9"}) {
      faulty(first, "0:1,2,3" + notSemicolon, 7);
    }
    faulty("each LET one digit", "0:0,0,0;1:9,9,9;", -1);
    faulty("each LET one digit", "0:10,0,0;", 3);
    faulty("each LET one digit", "0:1,,0;", 4);
    String rise = "MOMENTS rise (the \":\" behind one that does not can not stand there)";
    faulty(rise, "0:1,2,3;0:", 9);
    faulty(rise, "0:1,2,3;1:1,2,3;", -1);
    faulty(rise, "5:1,2,3;4:", 9);
    faulty(rise, "14:1,2,3;15:1,2,3;", -1);
    faulty(rise, "12:1,2,3;12:", 11);
    faulty(rise, "12:1,2,3;11:", 11);
    faulty(rise, "12:1,2,3;1:", 10);
    faulty(rise, "12:1,2,3;13:1,2,3;", -1);
    faulty(rise, "9:1,2,3;1:", 9);
    faulty(rise, "9:1,2,3;10:1,2,3;", -1);
    faulty(rise, "9:1,2,3;1", 9);
    faulty(rise, "9:1,2,3;3", 9);
    faulty(rise, "0:1,2,3;2:1,2,3;1:", 17);
  }

  private static void facts() {
    String whats = "0 PARENT (NONE), 1 SQUARE (0 of the JOINT 0), 2 WEIGHT, 3 the set of STRINGS on it, 4 how many RODS end at it";
    says(48, whats, "ofJoint 0 0 0 = -1 | ofJoint 0 0 1 = 0 | ofJoint 0 0 2 = 1 | ofJoint 0 0 3 = 0 | ofJoint 0 0 4 = 0 | 3 * joint 0 0 5 9 | 3 * string 0 2 0 9 | ofJoint 0 0 3 = 7 | ofJoint 0 0 4 = 3 | ofJoint 0 3 0 = 0 | ofJoint 0 3 1 = 5 | ofJoint 0 3 2 = 9"
        + " | ofJoint 0 3 3 = 0 | ofJoint 0 3 4 = 1 | new | joint 0 0 1 0 | joint 0 1 2 0 | joint 0 2 4 0 | string 0 1 3 9 | string 0 1 1 9 | string 0 1 3 9 | ofJoint 0 3 0 = 2 | ofJoint 0 3 1 = 4 | ofJoint 0 3 3 = 5 | ofJoint 0 1 3 = 2 | ofJoint 0 1 4 = 2 | ofJoint 0 0 4 = 1");
    says(48, "Throws `IllegalArgumentException` if what is not 0 to 4", "ofJoint 0 0 5 ! Argument | ofJoint 0 0 -1 ! Argument | ofJoint 0 1 5 ! Index | ofJoint 2 0 5 ! Index | ofJoint 0 -1 0 ! Index | ofJoint 0 1 0 ! Index");
    says(49, "0 PEG, 1 JOINT, 2 LET, 3 the MOMENT at which it TEARS (NONE), 4 x of its PEG, 5 y of its PEG", "joint 0 0 1 0 | string 0 4 1 9 | cross 0 7 | tilt 0 1 | ofString 0 0 0 = 4 | ofString 0 0 1 = 1 | ofString 0 0 2 = 9 | ofString 0 0 3 = -1 | ofString 0 0 4 = 9"
        + " | ofString 0 0 5 = 9 | tear 0 0 0 | ofString 0 0 3 = 0 | tear 0 0 15 | ofString 0 0 3 = 15 | string 0 0 0 0 | cross 0 0 | ofString 0 1 0 = 0 | ofString 0 1 1 = 0 | ofString 0 1 2 = 0 | ofString 0 1 4 = -2 | ofString 0 1 5 = 5");
    says(49, "Throws `IllegalArgumentException` if what is not 0 to 5", "string 0 2 0 5 | ofString 0 0 6 ! Argument | ofString 0 0 -1 ! Argument | ofString 0 1 6 ! Index | ofString 0 -1 0 ! Index | ofString 1 0 6 ! Index | ofString 2 0 6 ! Index");
    says(50, "0 JOINTS, 1 STRINGS, 2 X, 3 TILT, 4 KEYS, 5 the PLAYER who holds its cross, 6 the sum of all WEIGHTS", "ofPuppet 1 0 = 1 | ofPuppet 1 1 = 0 | ofPuppet 1 2 = 5 | ofPuppet 1 3 = 0 | ofPuppet 1 4 = 0 | ofPuppet 1 5 = 1 | ofPuppet 1 6 = 1 | 3 * joint 1 0 1 9 | weight 1 0 9"
        + " | 3 * string 1 2 0 5 | cross 1 7 | tilt 1 -1 | key 1 3 | key 1 4 | hand 1 2 | ofPuppet 1 0 = 4 | ofPuppet 1 1 = 3 | ofPuppet 1 2 = 7 | ofPuppet 1 3 = -1 | ofPuppet 1 4 = 2 | ofPuppet 1 5 = 2 | ofPuppet 1 6 = 36 | ofPuppet 0 6 = 1");
    says(50, "Throws `IllegalArgumentException` if what is not 0 to 6", "ofPuppet 0 7 ! Argument | ofPuppet 0 -1 ! Argument | ofPuppet 2 7 ! Index | ofPuppet -1 0 ! Index");
    says(51, "0 THINGS, 1 how long the ROW is, 2 how many can be undone, 3 how often REFUSED was told ever, 4 how often one knocked, 5 how many SIGNS the SLIP has", "thing 0 0 | house 0 = 1 | 20 * exchange 0 1 | house 1 = 20 | house 2 = 8 | exchange 0 1 refused | hand 0 1 refused"
        + " | house 3 = 2 | 3 * knock | house 4 = 3 | 40 * type 5 | house 5 = 40 | house 0 = 1");
    says(51, "3 how often REFUSED was told ever", "house 3 = 0 | hand 0 1 refused | string 0 2 0 2 | pull 0 0 1 refused | pull 0 0 9 refused | write : | read 0 refused | undo | house 3 = 4 | undo ! State | house 3 = 4");
    says(51, "Throws `IllegalArgumentException` if what is not 0 to 5", "house 6 ! Argument | house -1 ! Argument | house 5 = 0 | house 0 = 0");
  }

  private static void soundness() {
    says(52, "Returns whether all of this is so, of both PUPPETS", "isSound = true | string 0 2 0 1 | isSound = true | string 1 2 0 1 | isSound = true | cut 0 0 | isSound = true");
    says(52, "if there is a told POSE:", "string 0 2 0 1 | string 0 2 0 9 | pose 0 = - | isSound = true | key 0 0 | string 1 2 0 0 | isSound = true | weight 0 0 0 | isSound = true");
    says(52, "with all SLACK STRINGS cut it is the same, and with one more cut it is not", "3 * string 0 2 0 5 | isSound = true | let 0 0 9 | isSound = true | let 0 1 9 | let 0 2 9 | isSound = true | joint 0 0 5 3 | string 1 2 0 7 | isSound = true");
    says(52, "told BALANCE holds the sum of all WEIGHTS, and nothing sideways", "string 0 1 0 4 | string 0 4 0 4 | balance 0 = 0:2/9 1:1/9 | isSound = true | weight 0 0 9 | isSound = true | weight 0 0 0 | balance 0 = | isSound = true | weight 0 0 1 | let 0 1 9 | balance 0 = 0:1/4"
        + " | isSound = true | string 0 0 0 9 | cut 0 0 | cut 0 0 | pose 0 = 0,0 | balance 0 = 0:1/7 | isSound = true | cross 0 5 | balance 0 = - | isSound = true");
    says(52, "HEIGHT MIRRORED is the same (NONE, if there is none)", "cross 0 0 | tilt 0 1 | string 0 0 0 7 | joint 0 0 5 2 | isSound = true | let 0 0 0 | height 0 = -1 | isSound = true | cross 0 4 | isSound = true | ofPuppet 0 2 = 4 | ofPuppet 0 3 = 1 | ofString 0 0 0 = 0 | house 2 = 6");
    says(52, "the PAPER, read (however long it is), is the TABLE", "string 0 2 0 9 | key 0 0 | key 0 1 | key 0 2 | key 0 3 | key 0 10 | isSound = true | let 0 0 1 | key 0 15 | isSound = true | slip = | house 5 = 0 | house 2 = 8");
    says(52, "the ROW, taken back from behind, leaves each STRAND at its place", "20 * exchange 1 1 | isSound = true | 10 * untwist | exchange 0 1 | exchange 2 0 | exchange 1 0 | isSound = true | row = 1+ 1+ 1+ 1+ 1+ 1+ 1+ 1+ 1+ 1+ 0+ 2- 1- | strand 0 = 1");
  }

  private static void checksums() {
    String order = "for each v in this order";
    String runs = "wipe / joint 0 0 5 2 | joint 0 1 2 0 | joint 0 0 1 3 | string 0 1 0 6 | string 0 3 2 5 | string 0 4 3 8 | key 0 4 | let 0 1 9 | key 0 12 | tear 0 2 7 | type 4 | thing 3 3"
        + " / string 0 2 0 1 | joint 1 0 4 9 | string 1 0 1 5 | string 1 4 0 4 | tear 1 1 8 | key 1 0 | key 1 15 | exchange 2 1 | exchange 0 0 | hand 0 1 refused | knock | write 1:9"
        + " / string 0 2 0 9 | cross 0 7 | string 0 2 0 2 | tear 0 1 7 | tear 0 0 15 | string 1 2 0 2 | tear 1 0 15 | key 1 0 | let 1 0 9 | key 1 1 | let 1 0 2 | key 1 6 | let 1 0 9 | key 1 7 | let 1 0 2 | key 1 8 | key 1 14 | let 1 0 9 | key 1 15"
        + " / string 1 2 0 2 | tear 1 0 1 | string 0 2 0 2 | tear 0 0 8"
        + " / weight 0 0 0 | string 0 2 0 7 | string 1 2 0 2 | cross 1 2 | tear 0 0 15 | tilt 1 -1 | 20 * exchange 1 0 | 40 * type 12 | 5 * knock";
    for (String one : runs.split(" / ")) {
      says(53, order, one);
      Object told = outcome("digest");
      due("digest", told, sum(6707).longValue());
      due("digest again", outcome("digest"), told);
    }
    says(53, "A number d starts with 6707", "wipe");
    due("digest", x.digest(), sum(6707).longValue());
    says(53, "which wraps around as a 64-bit integer", "digest");
    BigInteger all = sum(6707);
    due("the sum that does not wrap around is beyond 64 bits", all.bitLength() > 64, true);
    due("digest", x.digest(), all.longValue());
  }

  /** The digest as a number without end. */
  private static BigInteger sum(int start) {
    BigInteger d = BigInteger.valueOf(start);
    StringBuilder b = new StringBuilder("house 0,house 1,house 2,house 3,house 4,house 5");
    for (int p = 0; p < 2; p++) {
      for (int what = 0; what <= 6; what++) {
        b.append(",ofPuppet ").append(p).append(' ').append(what);
      }
      for (int joint = 0; joint < (int) outcome("ofPuppet " + p + " 0"); joint++) {
        for (int what = 0; what <= 4; what++) {
          b.append(",ofJoint ").append(p).append(' ').append(joint).append(' ').append(what);
        }
        b.append(",place ").append(p).append(' ').append(joint).append(" 1,place ").append(p).append(' ').append(joint).append(" 0");
      }
      for (int string = 0; string < (int) outcome("ofPuppet " + p + " 1"); string++) {
        for (int what = 0; what <= 5; what++) {
          b.append(",ofString ").append(p).append(' ').append(string).append(' ').append(what);
        }
        b.append(",carries ").append(p).append(' ').append(string).append(",falls ").append(p).append(' ').append(string);
      }
      b.append(",height P,slack P,poses P 0,poses P 1,balance P,shadow P 0,shadow P 7,shadow P 15,period P,paper P".replace("P", "" + p));
    }
    b.append(",clash,strand 0,strand 1,strand 2,strand 3,fault,isSound");
    for (String call : b.toString().split(",")) {
      Object v = outcome(call);
      long number = v instanceof String ? ((String) v).length() : v instanceof Boolean ? ((Boolean) v ? 1 : 0) : (int) v;
      d = d.multiply(BigInteger.valueOf(31)).add(BigInteger.valueOf(number));
    }
    return d;
  }
}
