import java.lang.reflect.Constructor;
import java.lang.reflect.Field;
import java.lang.reflect.Method;
import java.lang.reflect.Modifier;
import java.nio.file.Files;
import java.nio.file.Path;
import java.util.ArrayList;
import java.util.List;
import java.util.TreeSet;
import java.util.regex.Matcher;
import java.util.regex.Pattern;

/** What of LANGUAGE.md can be seen from outside: the face as DOC.md prints it, words that the class must not hold, sizes. */
public final class LanguageTests {
  private static int wrong = 0;

  public static void main(String[] args) throws Exception {
    face();
    insides();
    source();
    System.out.println(wrong == 0 ? "the class keeps to the language" : wrong + " faults");
    if (wrong != 0) {
      System.exit(1);
    }
  }

  private static void check(boolean isRight, String fault) {
    if (!isRight) {
      wrong++;
      System.out.println(fault);
    }
  }

  private static void face() throws Exception {
    String doc = Files.readString(Path.of("../shared/DOC.md"));
    TreeSet<String> due = new TreeSet<>();
    Matcher m = Pattern.compile("public (\\w+) (\\w+)\\(([^)]*)\\)([^;]*);").matcher(doc.substring(doc.indexOf("```java"), doc.indexOf("## Description")));
    while (m.find()) {
      due.add(m.group(1) + " " + m.group(2) + "(" + m.group(3).replaceAll("(\\w+) \\w+", "$1") + ")" + m.group(4));
    }
    TreeSet<String> there = new TreeSet<>();
    TreeSet<String> names = new TreeSet<>();
    for (Method method : Stringpuppet.class.getDeclaredMethods()) {
      if (Modifier.isPublic(method.getModifiers())) {
        there.add(told(method));
        names.add(method.getName());
      } else {
        check(Modifier.isPrivate(method.getModifiers()), method + " is neither public nor private");
      }
    }
    check(due.size() == 52, "the document shows " + due.size() + " methods");
    check(due.equals(there), "the face is " + there + ", due is " + due);
    check(Modifier.isFinal(Stringpuppet.class.getModifiers()), "the class is not final");
    for (Constructor<?> c : Stringpuppet.class.getDeclaredConstructors()) {
      check(Modifier.isPublic(c.getModifiers()) && c.getParameterCount() == 0, c + " is not the document's");
    }
    List<Class<?>> classes = new ArrayList<>(List.of(Stringpuppet.class.getDeclaredClasses()));
    classes.add(Stringpuppet.class);
    for (Class<?> one : classes) {
      for (Method method : one.getDeclaredMethods()) {
        check(Modifier.isPublic(method.getModifiers()) || !names.contains(method.getName()), method + " bears the name of a public one");
      }
    }
  }

  private static String told(Method method) {
    StringBuilder b = new StringBuilder(method.getReturnType().getSimpleName() + " " + method.getName() + "(");
    for (Class<?> type : method.getParameterTypes()) {
      b.append(b.charAt(b.length() - 1) == '(' ? "" : ", ").append(type.getSimpleName());
    }
    b.append(")");
    for (Class<?> type : method.getExceptionTypes()) {
      b.append(b.indexOf(" throws ") < 0 ? " throws " : ", ").append(type.getSimpleName());
    }
    return b.toString();
  }

  private static void insides() {
    Class<?>[] classes = Stringpuppet.class.getDeclaredClasses();
    check(classes.length < 12, "too many classes");
    for (Class<?> one : classes) {
      check(Modifier.isStatic(one.getModifiers()) && !Modifier.isPublic(one.getModifiers()), one + " is not a class of the inside");
    }
    List<Class<?>> all = new ArrayList<>(List.of(classes));
    all.add(Stringpuppet.class);
    for (Class<?> one : all) {
      int fields = 0;
      for (Field field : one.getDeclaredFields()) {
        boolean isStatic = Modifier.isStatic(field.getModifiers());
        check(!isStatic || Modifier.isFinal(field.getModifiers()), field + " is static and not final");
        check(one != Stringpuppet.class || Modifier.isPrivate(field.getModifiers()), field + " is seen from outside");
        fields += isStatic ? 0 : 1;
      }
      check(fields <= 20, one + " has too many fields");
      for (Method method : one.getDeclaredMethods()) {
        check(method.getParameterCount() <= 7, method + " takes too much");
      }
    }
  }

  private static void source() throws Exception {
    String text = Files.readString(Path.of("src/main/java/Stringpuppet.java"));
    for (int i = 0; i < text.length(); i++) {
      check(text.charAt(i) == '\n' || text.charAt(i) >= 32 && text.charAt(i) < 127, "an odd sign at " + i);
    }
    String bare = text.replaceAll("(?s)/\\*.*?\\*/", "").replaceAll("//[^\n]*", "").replaceAll("\"[^\"\n]*\"", "\"\"").replaceAll("'[^'\n]*'", "' '");
    String[] no = {"\\bimport\\b", "\\bpackage\\b", "->", "::", "\\btry\\b", "\\bcatch\\b", "\\bfinally\\b", "\\bsynchronized\\b", "\\bassert\\b", "\\bvar\\b", "@",
        "\\w+Exact\\b", "\\bSystem\\b", "\\bThread\\b", "\\bRandom\\b", "\\bdouble\\b", "\\bfloat\\b", "\"\" \\+", "\\+ \"\"", "while \\(true\\)", "for \\(;;\\)",
        "\\bstatic \\{", "\\bprotected\\b", "\\bhashCode\\b", "\\.equals\\("};
    for (String word : no) {
      Matcher m = Pattern.compile(word).matcher(bare);
      check(!m.find(), "the class holds " + word);
    }
    // An array's index stands in the two classes that look at it first.
    Matcher index = Pattern.compile("\\b(\\w+)\\[[^\\]]").matcher(bare);
    while (index.find()) {
      check(index.group(1).equals("cells") || index.group(1).equals("states") || index.group(1).equals("int") || index.group(1).equals("State"), "an index of " + index.group(1));
    }
    int start = 0;
    int line = 0;
    for (String row : bare.split("\n", -1)) {
      line++;
      if (row.matches("( {2}| {4})(public |private |static |final )*[\\w<>\\[\\]]+ ?\\w*\\(.*\\{")) {
        start = line;
      }
      if (row.matches("( {2}| {4})\\}") && start > 0) {
        check(line - start < 60, "a method of " + (line - start) + " lines ends in row " + line);
        start = 0;
      }
    }
  }
}
