import java.lang.reflect.Constructor;
import java.lang.reflect.Field;
import java.lang.reflect.Method;
import java.lang.reflect.Modifier;
import java.nio.file.Files;
import java.nio.file.Path;
import java.util.ArrayList;
import java.util.List;
import java.util.TreeSet;
import java.util.regex.Matcher;
import java.util.regex.Pattern;

/** What of LANGUAGE.md can be seen from outside: the face as DOC.md prints it, words that the class must not hold, sizes. */
public final class LanguageTests {
  private static int wrong = 0;

  public static void main(String[] args) throws Exception {
    face();
    insides();
    source();
    System.out.println(wrong == 0 ? "the class keeps to the language" : wrong + " faults");
    if (wrong != 0) {
      System.exit(1);
    }
  }

  private static void check(boolean isRight, String fault) {
    if (!isRight) {
      wrong++;
      System.out.println(fault);
    }
  }

  private static void face() throws Exception {
    String doc = Files.readString(Path.of("../shared/DOC.md"));
    TreeSet<String> due = new TreeSet<>();
    Matcher m = Pattern.compile("public (\\w+) (\\w+)\\(([^)]*)\\)([^;]*);").matcher(doc.substring(doc.indexOf("```java"), doc.indexOf("## Description")));
    while (m.find()) {
      due.add(m.group(1) + " " + m.group(2) + "(" + m.group(3).replaceAll("(\\w+) \\w+", "$1") + ")" + m.group(4));
    }
    TreeSet<String> there = new TreeSet<>();
    TreeSet<String> names = new TreeSet<>();
    for (Method method : Stringpuppet.class.getDeclaredMethods()) {
      if (Modifier.isPublic(method.getModifiers())) {
        there.add(told(method));
        names.add(method.getName());
      } else {
        check(Modifier.isPrivate(method.getModifiers()), method + " is neither public nor private");
      }
    }
    check(due.size() == 52, "the document shows " + due.size() + " methods");
    check(due.equals(there), "the face is " + there + ", due is " + due);
    check(Modifier.isFinal(Stringpuppet.class.getModifiers()), "the class is not final");
    for (Constructor<?> c : Stringpuppet.class.getDeclaredConstructors()) {
      check(Modifier.isPublic(c.getModifiers()) && c.getParameterCount() == 0, c + " is not the document's");
    }
    List<Class<?>> classes = new ArrayList<>(List.of(Stringpuppet.class.getDeclaredClasses()));
    classes.add(Stringpuppet.class);
    for (Class<?> one : classes) {
      for (Method method : one.getDeclaredMethods()) {
        check(!Modifier.isPrivate(method.getModifiers()) || !names.contains(method.getName()), method + " bears the name of a public one");
      }
    }
  }

  private static String told(Method method) {
    StringBuilder b = new StringBuilder(method.getReturnType().getSimpleName() + " " + method.getName() + "(");
    for (Class<?> type : method.getParameterTypes()) {
      b.append(b.charAt(b.length() - 1) == '(' ? "" : ", ").append(type.getSimpleName());
    }
    b.append(")");
    for (Class<?> type : method.getExceptionTypes()) {
      b.append(b.indexOf(" throws ") < 0 ? " throws " : ", ").append(type.getSimpleName());
    }
    return b.toString();
  }

  private static void insides() {
    Class<?>[] classes = Stringpuppet.class.getDeclaredClasses();
    check(classes.length < 15, "too many classes");
    for (Class<?> one : classes) {
      check(Modifier.isStatic(one.getModifiers()) && !Modifier.isPublic(one.getModifiers()), one + " is not a class of the inside");
    }
    List<Class<?>> all = new ArrayList<>(List.of(classes));
    all.add(Stringpuppet.class);
    for (Class<?> one : all) {
      int fields = 0;
      for (Field field : one.getDeclaredFields()) {
        boolean isStatic = Modifier.isStatic(field.getModifiers());
        check(!isStatic || Modifier.isFinal(field.getModifiers()), field + " is static and not final");
        check(one != Stringpuppet.class || Modifier.isPrivate(field.getModifiers()), field + " is seen from outside");
        fields += isStatic ? 0 : 1;
      }
      check(fields <= 24, one + " has too many fields");
      for (Method method : one.getDeclaredMethods()) {
        check(method.getParameterCount() <= 7, method + " takes too much");
      }
    }
  }

  private static void source() throws Exception {
    String text = Files.readString(Path.of("src/main/java/Stringpuppet.java"));
    String bare = text.replaceAll("(?s)/\\*.*?\\*/", "").replaceAll("//[^\n]*", "").replaceAll("\"[^\"\n]*\"", "\"\"").replaceAll("'[^'\n]*'", "' '");
    String[] no = {"\\bpackage\\b", "\\bimport (?!java\\.util\\.(List|ArrayList|Arrays|Iterator|NoSuchElementException);)", "::", "(?m)^(?!.*\\b(case|default)\\b).*->",
        "\\bfinally\\b", "\\btry \\(", "\\bsynchronized\\b", "\\bassert\\b", "\\w+Exact\\b", "\\bSystem\\.(?!arraycopy\\b)", "\\bThread\\b", "\\bRandom\\b", "\\bMath\\.random\\b",
        "\\bgetMessage\\b", "\\bhashCode\\b", "\"\" \\+", "\\+ \"\"", "\\bstatic \\{", "\\bprotected\\b", "\\bextends \\w*Exception\\b",
        "\\bcatch \\((final )?(Throwable|Exception|Error|ArrayIndexOutOfBoundsException|NullPointerException|ClassCastException|NegativeArraySizeException|ArrayStoreException)\\b"};
    for (String word : no) {
      Matcher m = Pattern.compile(word).matcher(bare);
      check(!m.find(), "the class holds " + word);
    }
    Matcher thrown = Pattern.compile("\\bthrow (.*)").matcher(bare);
    while (thrown.find()) {
      check(thrown.group(1).matches("new (IllegalState|IllegalArgument|IndexOutOfBounds|Arithmetic|UnsupportedOperation|NoSuchElement|Runtime)Exception\\((\"\")?\\);.*"), "throws " + thrown.group(1));
    }
    int start = 0;
    int line = 0;
    for (String row : bare.split("\n", -1)) {
      line++;
      if (row.matches("( {2}| {4})(public |private |static |final )*[\\w<>\\[\\]]+ ?\\w*\\(.*\\{")) {
        start = line;
      }
      if (row.matches("( {2}| {4})\\}") && start > 0) {
        check(line - start < 66, "a method of " + (line - start) + " lines ends in row " + line);
        start = 0;
      }
    }
  }
}
