import java.io.IOException;
import java.lang.reflect.InvocationTargetException;
import java.lang.reflect.Method;
import java.lang.reflect.Modifier;
import java.nio.file.Files;
import java.nio.file.Path;
import java.util.ArrayList;
import java.util.Arrays;
import java.util.List;
import java.util.Set;
import java.util.TreeSet;
import java.util.regex.Matcher;
import java.util.regex.Pattern;
import java.util.stream.Stream;

/**
 * What README.md says is so: its example answers as written there, its table tells of every call
 * and what it throws, its rules hold, and its list of tests is whole. Runs where README.md is.
 */
public final class CacheLevelsReadme extends Checks {
  private static final Pattern MADE =
      Pattern.compile("CacheLevels caches = new CacheLevels\\((.*)\\);");
  private static final Pattern CALL =
      Pattern.compile("caches\\.(\\w+)\\((.*?)\\); +// (throws \\w+|[-\\w]+): .+");
  private static final Pattern ROW =
      Pattern.compile("\\| `(\\w+)\\((.*)\\)` \\| .+ \\|(.*)\\|");
  private static final Pattern TEST = Pattern.compile("`(CacheLevels\\w+\\.java)`");

  private static final int[] ODD_INTS = {LEAST, -17, -3, -1, 0, 1, 2, 3, 4, 5, 9, 17, MOST};

  public static void main(String[] args) throws IOException {
    List<String> readme = Files.readAllLines(Path.of("README.md"));
    exampleAnswersAsWritten(readme);
    tableTellsOfEveryCall(readme);
    listOfTestsIsWhole(readme);
    objectsAreMadeAsTold();
    noneIsACoreOfTwoCallsAlone();
    askingChangesNothing();
    callsBeyondTheLastOne();
    end();
  }

  // ---- the example

  private static void exampleAnswersAsWritten(List<String> readme) {
    List<String> example = example(readme);
    Matcher made = MADE.matcher(example.isEmpty() ? "" : example.get(0));
    if (!made.matches()) {
      due("readme: the example begins with a new object", "no", "yes");
      return;
    }
    int[] sizes = ints(made.group(1));
    CacheLevels caches = new CacheLevels(sizes[0], sizes[1], sizes[2], sizes[3]);
    Set<String> used = new TreeSet<>();
    for (String row : example.subList(1, example.size())) {
      Matcher call = CALL.matcher(row);
      boolean isCall = call.matches();
      due("readme: a call with its answer: " + row, isCall, true);
      if (isCall) {
        used.add(call.group(1));
        due("readme: " + row, answer(caches, call.group(1), ints(call.group(2))), call.group(3));
      }
    }
    due("readme: the example uses every call", used, calls());
  }

  /** The rows of the file's one block of Java. */
  private static List<String> example(List<String> readme) {
    int start = readme.indexOf("```java") + 1;
    int length = readme.subList(start, readme.size()).indexOf("```");
    return start == 0 || length < 0 ? List.of() : readme.subList(start, start + length);
  }

  private static int[] ints(String text) {
    if (text.isEmpty()) {
      return new int[0];
    }
    return Arrays.stream(text.replace("CacheLevels.NONE", "-1").split(", "))
        .mapToInt(Integer::parseInt)
        .toArray();
  }

  private static String answer(CacheLevels caches, String name, int[] arguments) {
    Object[] given = Arrays.stream(arguments).boxed().toArray();
    try {
      return String.valueOf(method(name).invoke(caches, given));
    } catch (InvocationTargetException e) {
      return "throws " + e.getCause().getClass().getSimpleName();
    } catch (IllegalAccessException e) {
      return "can not be called";
    }
  }

  private static Method method(String name) {
    return Stream.of(CacheLevels.class.getDeclaredMethods())
        .filter(m -> Modifier.isPublic(m.getModifiers()) && m.getName().equals(name))
        .findFirst()
        .orElseThrow();
  }

  private static Set<String> calls() {
    Set<String> names = new TreeSet<>();
    for (Method method : CacheLevels.class.getDeclaredMethods()) {
      if (Modifier.isPublic(method.getModifiers())) {
        names.add(method.getName());
      }
    }
    return names;
  }

  // ---- the tables and the list

  private static void tableTellsOfEveryCall(List<String> readme) {
    Set<String> told = new TreeSet<>();
    for (String text : readme) {
      Matcher row = ROW.matcher(text);
      if (row.matches()) {
        String name = row.group(1);
        told.add(name);
        int count = row.group(2).isEmpty() ? 0 : row.group(2).split(", ").length;
        due("readme: arguments of " + name, count, method(name).getParameterCount());
        due("readme: what " + name + " throws", row.group(3).trim(), exceptions(method(name)));
      }
    }
    due("readme: a row of the table for each call", told, calls());
  }

  private static String exceptions(Method method) {
    List<String> names = new ArrayList<>();
    for (Class<?> type : method.getExceptionTypes()) {
      names.add(type.getSimpleName());
    }
    return String.join(", ", names);
  }

  private static void listOfTestsIsWhole(List<String> readme) throws IOException {
    Set<String> told = new TreeSet<>();
    for (String text : readme) {
      Matcher test = TEST.matcher(text);
      while (text.startsWith("- `") && test.find()) {
        told.add(test.group(1));
      }
    }
    Set<String> there = new TreeSet<>();
    try (Stream<Path> files = Files.list(Path.of("src/test/java"))) {
      files.forEach(file -> there.add(file.getFileName().toString()));
    }
    due("readme: the tests", told, there);
  }

  // ---- the rules beside the tables

  /** "takes any ints and throws nothing"; "At first .. every quota is 4, and no line passes by" */
  private static void objectsAreMadeAsTold() {
    for (int any : ODD_INTS) {
      CacheLevels x = new CacheLevels(any, any, any, any);
      due("readme: cores of " + any, x.count(4) >= 1 && x.count(4) <= 4, true);
      due("readme: keeping of " + any, x.count(5) >= 0 && x.count(5) <= 2, true);
      due("readme: sets of " + any, x.count(6) >= 1 && x.count(6) <= 8, true);
      due("readme: sets of the second of " + any, x.count(7) >= 1 && x.count(7) <= 16, true);
      due("readme: the quota of the last core", x.quota(x.count(4) - 1, 4), 4);
      due("readme: no line passes by", x.bypass(any, any), false);
    }
  }

  /** "As a core only holds and line take it." */
  private static void noneIsACoreOfTwoCallsAlone() {
    CacheLevels x = new CacheLevels(4, 0, 1, 1);
    x.access(0, 7, 0);
    due("readme: holds takes NONE", x.holds(NONE, 7), 1);
    due("readme: line takes NONE", x.line(NONE, 0, 0), 7);
    dueIndex("readme: access of NONE", () -> x.access(NONE, 7, 0));
    dueIndex("readme: quota of NONE", () -> x.quota(NONE, 1));
    dueIndex("readme: version of NONE", () -> x.version(NONE, 7));
    dueIndex("readme: core of NONE", () -> x.core(NONE, 0));
  }

  /** "A call that throws changes nothing. The calls from holds on change nothing at all." */
  private static void askingChangesNothing() {
    List<String> asking =
        List.of("holds", "version", "memory", "line", "owner", "directory", "core", "count");
    for (int keep = 0; keep < 3; keep++) {
      for (String name : asking) {
        int count = method(name).getParameterCount();
        for (int any : new int[] {LEAST, -1, 0, 1, 2, MOST}) {
          int[] arguments = new int[count];
          Arrays.fill(arguments, any);
          dueUnchanged(keep, name, arguments);
        }
      }
      dueUnchanged(keep, "access", 0, 3, 2);
      dueUnchanged(keep, "access", 2, 3, 1);
      dueUnchanged(keep, "quota", 0, 5);
      dueUnchanged(keep, "quota", 2, 0);
    }
  }

  /** A new object for each call, so that none is used beyond its 512 calls. */
  private static void dueUnchanged(int keep, String name, int... arguments) {
    CacheLevels x = new CacheLevels(2, keep, 1, 1);
    for (int line = 0; line < 6; line++) {
      x.access(line % 2, line % 4, line % 2);
    }
    String before = whole(x);
    answer(x, name, arguments);
    String call = name + Arrays.toString(arguments);
    due("readme: " + call + " changes nothing, keeping " + keep, whole(x), before);
    due("readme: " + call + " changes no quota", x.quota(0, 4) * 10 + x.quota(1, 4), 44);
  }

  private static String whole(CacheLevels x) {
    return caches(x) + tallies(x, 0) + " " + tallies(x, 1) + " " + backAndOver(x);
  }

  /** "Later ones still end and throw nothing but the above" */
  private static void callsBeyondTheLastOne() {
    for (int keep = 0; keep < 3; keep++) {
      CacheLevels x = new CacheLevels(2, keep, 2, 1);
      x.bypass(0, 700);
      // More written lines than calls that an object serves.
      for (int line = 0; line < 1500; line++) {
        String got = answer(x, "access", new int[] {line % 2, line, 1});
        due("readme: late access, keeping " + keep, got.matches("[123]"), true);
      }
      for (String name : calls()) {
        int[] arguments = new int[method(name).getParameterCount()];
        Arrays.fill(arguments, 1);
        String got = answer(x, name, arguments);
        String thrown = got.startsWith("throws ") ? got.substring(7) : "";
        boolean told = exceptions(method(name)).contains(thrown);
        due("readme: late " + name + " throws " + thrown + ", keeping " + keep, told, true);
      }
      dueIndex("readme: late, no such core", () -> x.access(2, 0, 0));
      dueArgument("readme: late, no such kind", () -> x.access(1, 0, 2));
    }
  }
}
