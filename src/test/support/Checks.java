/**
 * How the tests with written-out answers speak. They extend it, since a class without a package
 * can't be imported from.
 */
class Checks {
  static final int NONE = CacheLevels.NONE;
  static final int LEAST = Integer.MIN_VALUE;
  static final int MOST = Integer.MAX_VALUE;

  private static int wrong = 0;

  /** Tells how it went, and ends the program with exit code 1 if an answer was wrong. */
  static void end() {
    System.out.println(wrong == 0 ? "all answers are as due" : wrong + " answers are not as due");
    if (wrong != 0) {
      System.exit(1);
    }
  }

  static void due(String what, Object got, Object want) {
    if (!got.equals(want)) {
      wrong++;
      System.out.println(what + " answered " + got + ", due is " + want);
    }
  }

  private static void dueThrow(String what, Class<?> want, Runnable call) {
    Object got = "nothing thrown";
    try {
      call.run();
    } catch (RuntimeException e) {
      got = e.getClass();
    }
    due(what, got, want);
  }

  static void dueIndex(String what, Runnable call) {
    dueThrow(what, IndexOutOfBoundsException.class, call);
  }

  static void dueArgument(String what, Runnable call) {
    dueThrow(what, IllegalArgumentException.class, call);
  }

  /** Accesses written as "core r|w line", with the answers that are due. */
  static void run(String what, CacheLevels x, String accesses, String answers) {
    StringBuilder got = new StringBuilder();
    for (String access : accesses.split(", ")) {
      String[] word = access.split(" ");
      int kind = word[1].equals("w") ? 1 : 0;
      got.append(x.access(Integer.parseInt(word[0]), Integer.parseInt(word[2]), kind));
    }
    due(what + ": " + accesses, got.toString(), answers);
  }

  /** A line as the face shows it: holds of each core and of the second, owner, memory, version. */
  static String see(CacheLevels x, int line) {
    StringBuilder text = new StringBuilder();
    for (int core = 0; core < x.count(4); core++) {
      text.append(x.holds(core, line));
    }
    text.append(" ").append(x.holds(NONE, line));
    text.append(" owner ").append(x.owner(line));
    text.append(" memory ").append(x.memory(line));
    text.append(" version ").append(x.version(0, line));
    return text.toString();
  }

  /** The lines of a set, the one used last first. */
  static String order(CacheLevels x, int core, int set) {
    return order(x, core, set, false);
  }

  /**
   * All caches, each set in brackets with its lines, the one used last first, a w behind each
   * written one: those of the cores' first caches, then the second one's, with the owners.
   */
  static String caches(CacheLevels x) {
    StringBuilder text = new StringBuilder();
    for (int core = 0; core < x.count(4); core++) {
      for (int set = 0; set < x.count(6); set++) {
        text.append("[").append(order(x, core, set, true)).append("]");
      }
      text.append(" ");
    }
    for (int set = 0; set < x.count(7); set++) {
      text.append("{").append(order(x, NONE, set, true)).append("}");
    }
    return text.toString();
  }

  private static String order(CacheLevels x, int core, int set, boolean whole) {
    StringBuilder text = new StringBuilder();
    for (int k = 0; k < 9; k++) {
      int line;
      try {
        line = x.line(core, set, k);
      } catch (IndexOutOfBoundsException e) {
        return text.toString();
      }
      text.append(k == 0 ? "" : " ").append(line);
      if (whole) {
        text.append(x.holds(core, line) == 2 ? "w" : "");
        text.append(core == NONE ? "@" + x.owner(line) : "");
      }
    }
    return text.append(" no end").toString();
  }

  static String tallies(CacheLevels x, int core) {
    StringBuilder text = new StringBuilder();
    for (int what = 0; what < 8; what++) {
      text.append(what == 0 ? "" : " ").append(x.core(core, what));
    }
    return text.toString();
  }

  /** One tally of each core. */
  static String each(CacheLevels x, int what) {
    StringBuilder text = new StringBuilder();
    for (int core = 0; core < x.count(4); core++) {
      text.append(core == 0 ? "" : " ").append(x.core(core, what));
    }
    return text.toString();
  }

  /** Write backs, and lines handed over. */
  static String backAndOver(CacheLevels x) {
    return x.count(0) + " " + x.count(1);
  }
}
