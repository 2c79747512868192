import java.lang.reflect.Constructor;
import java.lang.reflect.Field;
import java.lang.reflect.Method;
import java.lang.reflect.Modifier;
import java.util.Set;
import java.util.TreeSet;

/** The public face of the class is the document's, and no member beside it can be seen. */
public final class CacheLevelsFace {
  private static final String INDEX = "java.lang.IndexOutOfBoundsException";
  private static final String ARGUMENT = "java.lang.IllegalArgumentException";
  private static final Set<String> FACE =
      Set.of(
          "public static final int CacheLevels.NONE",
          "public CacheLevels(int,int,int,int)",
          "public int CacheLevels.access(int,int,int) throws " + INDEX + "," + ARGUMENT,
          "public int CacheLevels.quota(int,int) throws " + INDEX + "," + ARGUMENT,
          "public boolean CacheLevels.bypass(int,int)",
          "public int CacheLevels.flush()",
          "public int CacheLevels.holds(int,int) throws " + INDEX,
          "public int CacheLevels.version(int,int) throws " + INDEX,
          "public int CacheLevels.memory(int)",
          "public int CacheLevels.line(int,int,int) throws " + INDEX,
          "public int CacheLevels.owner(int)",
          "public int CacheLevels.directory(int)",
          "public int CacheLevels.core(int,int) throws " + INDEX,
          "public int CacheLevels.count(int)");

  public static void main(String[] args) {
    Set<String> seen = new TreeSet<>();
    for (Field field : CacheLevels.class.getDeclaredFields()) {
      addVisible(seen, field.getModifiers(), field.toString());
    }
    for (Constructor<?> constructor : CacheLevels.class.getDeclaredConstructors()) {
      addVisible(seen, constructor.getModifiers(), constructor.toString());
    }
    for (Method method : CacheLevels.class.getDeclaredMethods()) {
      addVisible(seen, method.getModifiers(), method.toString());
    }
    int wrong = 0;
    wrong += tell("is missing", new TreeSet<>(FACE), seen);
    wrong += tell("is not of the face", seen, FACE);
    int modifiers = CacheLevels.class.getModifiers();
    if (!Modifier.isPublic(modifiers) || !Modifier.isFinal(modifiers)) {
      System.out.println("the class is not public and final");
      wrong++;
    }
    System.out.println(wrong == 0 ? "the face is as due" : wrong + " faults of the face");
    if (wrong != 0) {
      System.exit(1);
    }
  }

  private static void addVisible(Set<String> seen, int modifiers, String text) {
    if (!Modifier.isPrivate(modifiers)) {
      seen.add(text);
    }
  }

  private static int tell(String fault, Set<String> some, Set<String> others) {
    int wrong = 0;
    for (String text : some) {
      if (!others.contains(text)) {
        System.out.println(text + " " + fault);
        wrong++;
      }
    }
    return wrong;
  }
}
