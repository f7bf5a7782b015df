import java.io.File;
import java.lang.reflect.InvocationTargetException;
import java.lang.reflect.Method;
import java.nio.file.Files;
import java.nio.file.Path;
import java.util.HashMap;
import java.util.HashSet;
import java.util.Map;
import java.util.Set;
import java.util.regex.Matcher;
import java.util.regex.Pattern;

/** The examples of README.md: each call there answers what stands behind it; and each test and file that it names is there. */
public final class ReadmeTests {
  private static final String START = "Stringpuppet x = new Stringpuppet();";
  private static final Pattern EXAMPLE = Pattern.compile("```java\n(.*?)```", Pattern.DOTALL);
  private static final Pattern CALL = Pattern.compile("x\\.(\\w+)\\((.*?)\\); // (\"[^\"]*\"|throws \\w+|true|false|-?\\d+)(, .*)?");
  private static final Map<String, Method> METHODS = new HashMap<>();
  private static final Set<String> KINDS = new HashSet<>();
  private static int wrong = 0;

  public static void main(String[] args) throws Exception {
    for (Method method : Stringpuppet.class.getDeclaredMethods()) {
      METHODS.put(method.getName(), method);
    }
    String readme = Files.readString(Path.of("README.md"));
    int calls = 0;
    Matcher example = EXAMPLE.matcher(readme);
    while (example.find()) {
      calls += runExample(example.group(1));
    }
    for (String kind : new String[] {"text", "number", "truth", "exception", "refused"}) {
      if (!KINDS.contains(kind)) {
        fault("the examples have no answer of the kind " + kind);
      }
    }
    namesAllTests(readme);
    namesFiles(readme);
    System.out.println(wrong == 0 ? "all " + calls + " calls of README.md answer as it tells" : wrong + " faults");
    if (wrong != 0) {
      System.exit(1);
    }
  }

  private static void fault(String what) {
    wrong++;
    System.out.println(what);
  }

  private static int runExample(String example) throws Exception {
    Stringpuppet x = null;
    int calls = 0;
    for (String line : example.split("\n")) {
      Matcher call = CALL.matcher(line);
      if (line.equals(START)) {
        x = new Stringpuppet();
      } else if (x != null && call.matches()) {
        calls++;
        String told = answer(x, call.group(1), call.group(2));
        if (!told.equals(call.group(3))) {
          fault(line + " - the class answers " + told);
        }
      } else if (!line.isEmpty() && !line.startsWith("// ")) {
        fault("neither a call with its answer nor a comment: " + line);
      }
    }
    return calls;
  }

  private static String answer(Stringpuppet x, String name, String arguments) throws Exception {
    Method method = METHODS.get(name);
    String[] words = arguments.isEmpty() ? new String[0] : arguments.split(", ");
    if (method == null || method.getParameterCount() != words.length) {
      return "no such call";
    }
    Object[] given = new Object[words.length];
    for (int i = 0; i < given.length; i++) {
      given[i] = method.getParameterTypes()[i] == boolean.class ? (Object) Boolean.parseBoolean(words[i]) : (Object) Integer.parseInt(words[i]);
    }
    try {
      Object told = method.invoke(x, given);
      KINDS.add(told instanceof String ? "text" : told instanceof Boolean ? "truth" : told.equals(-9) ? "refused" : "number");
      return told instanceof String ? "\"" + told + "\"" : told.toString();
    } catch (InvocationTargetException e) {
      KINDS.add("exception");
      return "throws " + e.getCause().getClass().getSimpleName();
    }
  }

  private static void namesAllTests(String readme) {
    String[] files = new File("src/test/java").list();
    for (String file : files == null ? new String[0] : files) {
      if (!readme.contains("- `" + file.replace(".java", "") + "`: ")) {
        fault("README.md does not tell what " + file + " is");
      }
    }
  }

  private static void namesFiles(String readme) {
    Matcher named = Pattern.compile("- `(\\w+)`: ").matcher(readme);
    while (named.find()) {
      if (!new File("src/test/java/" + named.group(1) + ".java").isFile()) {
        fault("README.md names a test that is not there: " + named.group(1));
      }
    }
    for (String path : new String[] {".ci/run", "src/main/java/Stringpuppet.java", "src/test/java", "../shared/tests", "../shared/DOC.md", "../shared/LANGUAGE.md"}) {
      if (!readme.contains("`" + path + "`") || !new File(path).exists()) {
        fault("README.md does not name " + path + ", or it is not there");
      }
    }
  }
}
