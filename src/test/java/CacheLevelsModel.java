import java.util.ArrayList;
import java.util.HashMap;
import java.util.List;
import java.util.Map;
import java.util.Random;

/**
 * Runs of made-up calls: every answer against a plain second writing of the document, and at the
 * end of each run what must hold whatever was called.
 */
public final class CacheLevelsModel {
  private static final int NONE = CacheLevels.NONE;
  private static final int INDEX = -1001;
  private static final int ARGUMENT = -1002;

  private static int wrong = 0;

  /** A line in a cache. */
  private static final class Entry {
    final int line;
    final int owner;
    int version;
    boolean written;

    Entry(int line, int version, boolean written, int owner) {
      this.line = line;
      this.version = version;
      this.written = written;
      this.owner = owner;
    }
  }

  /** A set's lines, the one used last first, by the set's number. */
  private static final class Cache {
    final List<List<Entry>> sets = new ArrayList<>();

    Cache(int count) {
      for (int i = 0; i < count; i++) {
        sets.add(new ArrayList<>());
      }
    }

    List<Entry> setOf(int line) {
      return sets.get(Math.floorMod(line, sets.size()));
    }

    Entry get(int line) {
      return setOf(line).stream().filter(e -> e.line == line).findFirst().orElse(null);
    }

    boolean lose(int line) {
      return setOf(line).removeIf(e -> e.line == line);
    }

    void first(Entry entry) {
      setOf(entry.line).remove(entry);
      setOf(entry.line).add(0, entry);
    }

    int total() {
      return sets.stream().mapToInt(List::size).sum();
    }
  }

  /** The document once more, with lists and maps. */
  private static final class Model {
    final int keep;
    final Cache[] firsts;
    final Cache second;
    final Map<Integer, Integer> memory = new HashMap<>();
    final Map<Integer, Integer> writes = new HashMap<>();
    final int[] quotas = {4, 4, 4, 4};
    final int[][] tallies = new int[4][7];
    long from = 1;
    long to = 0;
    int writeBacks;
    int handed;

    Model(int cores, int keep, int first, int second) {
      this.keep = keep;
      this.firsts = new Cache[cores];
      for (int i = 0; i < cores; i++) {
        firsts[i] = new Cache(first);
      }
      this.second = new Cache(second);
    }

    int access(int core, int line, int kind) {
      if (core < 0 || core >= firsts.length) {
        return INDEX;
      }
      if (kind != 0 && kind != 1) {
        return ARGUMENT;
      }
      tallies[core][0]++;
      tallies[core][4] += kind;
      int answer = reach(core, line);
      tallies[core][answer]++;
      if (kind == 1) {
        write(core, line);
      }
      return answer;
    }

    int reach(int core, int line) {
      Entry own = firsts[core].get(line);
      if (own != null) {
        firsts[core].first(own);
        return 1;
      }
      for (Cache other : firsts) {
        Entry e = other.get(line);
        if (e != null && e.written) {
          e.written = false;
          handed++;
          down(e);
        }
      }
      Entry shared = second.get(line);
      if (shared != null) {
        second.first(shared);
        if (keep == 2) {
          second.lose(line);
        }
        intoFirst(core, new Entry(line, shared.version, keep == 2 && shared.written, core));
        return 2;
      }
      int version = memory.getOrDefault(line, 0);
      boolean passes = from <= line && line <= to;
      if (keep == 1 && (passes || quotas[core] == 0)) {
        return 3;
      }
      if (keep != 2 && !passes) {
        intoSecond(core, new Entry(line, version, false, core));
      }
      intoFirst(core, new Entry(line, version, false, core));
      return 3;
    }

    void write(int core, int line) {
      for (int other = 0; other < firsts.length; other++) {
        if (other != core && firsts[other].lose(line)) {
          tallies[other][5]++;
        }
      }
      if (keep == 2) {
        second.lose(line);
      }
      int version = writes.merge(line, 1, Integer::sum);
      Entry own = firsts[core].get(line);
      if (own == null) {
        back(line, version);
      } else {
        own.version = version;
        own.written = true;
      }
    }

    void back(int line, int version) {
      memory.put(line, version);
      writeBacks++;
    }

    void down(Entry e) {
      Entry there = second.get(e.line);
      if (there == null) {
        back(e.line, e.version);
      } else {
        there.version = e.version;
        there.written = true;
      }
    }

    void intoFirst(int core, Entry coming) {
      List<Entry> set = firsts[core].setOf(coming.line);
      if (set.size() == 2) {
        Entry old = set.remove(1);
        boolean passes = from <= old.line && old.line <= to;
        if (keep == 2 && !passes && bits(old.line) == 0) {
          intoSecond(core, new Entry(old.line, old.version, old.written, core));
        } else if (old.written) {
          down(old);
        }
      }
      set.add(0, coming);
    }

    void intoSecond(int core, Entry coming) {
      List<Entry> set = second.setOf(coming.line);
      List<Entry> owned = set.stream().filter(e -> e.owner == core).toList();
      if (quotas[core] == 0) {
        if (coming.written) {
          back(coming.line, coming.version);
        }
        return;
      }
      if (owned.size() >= quotas[core]) {
        outOfSecond(owned.get(owned.size() - 1));
      } else if (set.size() == 4) {
        outOfSecond(set.get(3));
      }
      set.add(0, coming);
    }

    void outOfSecond(Entry old) {
      second.lose(old.line);
      for (int core = 0; keep == 1 && core < firsts.length; core++) {
        Entry e = firsts[core].get(old.line);
        if (e != null && e.written) {
          old = e;
        }
        if (firsts[core].lose(old.line)) {
          tallies[core][6]++;
        }
      }
      if (old.written) {
        back(old.line, old.version);
      }
    }

    int quota(int core, int ways) {
      if (core < 0 || core >= firsts.length) {
        return INDEX;
      }
      if (ways < 0 || ways > 4) {
        return ARGUMENT;
      }
      int before = quotas[core];
      quotas[core] = ways;
      return before;
    }

    int bypass(int newFrom, int newTo) {
      int before = from <= to ? 1 : 0;
      from = newFrom;
      to = newTo;
      return before;
    }

    int flush() {
      int before = writeBacks;
      for (Cache cache : firsts) {
        for (List<Entry> set : cache.sets) {
          set.stream().filter(e -> e.written).forEach(e -> back(e.line, e.version));
          for (Entry e : set) {
            if (e.written) {
              second.lose(e.line);
            }
          }
          set.clear();
        }
      }
      for (List<Entry> set : second.sets) {
        set.stream().filter(e -> e.written).forEach(e -> back(e.line, e.version));
        set.clear();
      }
      return writeBacks - before;
    }

    int bits(int line) {
      int bits = 0;
      for (int core = 0; core < firsts.length; core++) {
        bits += firsts[core].get(line) == null ? 0 : 1 << core;
      }
      return bits;
    }

    int owned(int core) {
      return (int) second.sets.stream().flatMap(List::stream).filter(e -> e.owner == core).count();
    }
  }

  private static void due(String what, int got, int want) {
    if (got != want) {
      wrong++;
      if (wrong < 50) {
        System.out.println(what + " answered " + got + ", due is " + want);
      }
    }
  }

  public static void main(String[] args) {
    for (int run = 0; run < 30000 && wrong == 0; run++) {
      runOnce(run, new Random(run));
    }
    for (int run = 0; run < 300; run++) {
      callWildly(new Random(run));
    }
    System.out.println(wrong == 0 ? "all answers are as due" : wrong + " answers are not as due");
    if (wrong != 0) {
      System.exit(1);
    }
  }

  /**
   * Some changes, then one look at all that can be seen. An object serves 512 calls: with at most
   * 12 lines the look takes fewer than 380.
   */
  private static void runOnce(int run, Random random) {
    int cores = 1 + random.nextInt(4);
    int first = random.nextInt(3) == 0 ? 1 + random.nextInt(8) : 1 + random.nextInt(2);
    int second = random.nextInt(3) == 0 ? 1 + random.nextInt(16) : 1 + random.nextInt(2);
    int keep = run % 3;
    int[] lines = someLines(random, second);
    int often = 4 + random.nextInt(36);
    CacheLevels x = new CacheLevels(cores, keep, first, second);
    Model m = new Model(cores, keep, first, second);
    int steps = 1 + random.nextInt(130);
    for (int step = 0; step < steps; step++) {
      String what = "run " + run + ", step " + step + ": ";
      int line = lines[random.nextInt(lines.length)];
      int core = random.nextInt(cores);
      int kind = random.nextInt(often);
      if (kind == 0) {
        int ways = random.nextInt(6) - random.nextInt(2);
        due(what + "quota", guarded(() -> x.quota(core, ways)), m.quota(core, ways));
      } else if (kind == 1) {
        int to = line - 1 + random.nextInt(3);
        due(what + "bypass", x.bypass(line, to) ? 1 : 0, m.bypass(line, to));
      } else if (kind == 2 && random.nextInt(8) == 0) {
        due(what + "flush", x.flush(), m.flush());
      } else {
        int who = random.nextInt(60) == 0 ? core + 1 : core;
        int how = random.nextInt(60) == 0 ? 2 : random.nextInt(2);
        due(what + "access", guarded(() -> x.access(who, line, how)), m.access(who, line, how));
      }
    }
    String what = "run " + run + ", at the end: ";
    compareLines(what, x, m, lines);
    compareOrders(what, x, m);
    compareCounts(what, x, m);
  }

  private static int[] someLines(Random random, int sets) {
    int[] lines = new int[3 + random.nextInt(10)];
    for (int i = 0; i < lines.length; i++) {
      // A few sets get most lines, so that they are full often.
      lines[i] = (random.nextInt(20) - 8) * sets + random.nextInt(Math.min(sets, 2));
    }
    return lines;
  }

  private interface Call {
    int answer();
  }

  private static int guarded(Call call) {
    try {
      return call.answer();
    } catch (IndexOutOfBoundsException e) {
      return e.getClass() == IndexOutOfBoundsException.class ? INDEX : Integer.MIN_VALUE;
    } catch (IllegalArgumentException e) {
      return ARGUMENT;
    }
  }

  private static int state(Entry e) {
    return e == null ? 0 : e.written ? 2 : 1;
  }

  private static void compareLines(String what, CacheLevels x, Model m, int[] lines) {
    for (int line : lines) {
      int written = 0;
      int held = 0;
      for (int core = 0; core < m.firsts.length; core++) {
        int holds = x.holds(core, line);
        written += holds == 2 ? 1 : 0;
        held += holds == 0 ? 0 : 1 << core;
        due(what + "holds", holds, state(m.firsts[core].get(line)));
        due(what + "no write is lost", x.version(core, line), m.writes.getOrDefault(line, 0));
      }
      Entry shared = m.second.get(line);
      due(what + "holds of the second", x.holds(NONE, line), state(shared));
      due(what + "owner", x.owner(line), shared == null ? NONE : shared.owner);
      due(what + "directory", x.directory(line), held);
      due(what + "memory", x.memory(line), m.memory.getOrDefault(line, 0));
      due(what + "one has it written at most", Math.max(1, written), 1);
      if (held != 0 && m.keep != 0) {
        due(what + "the way of keeping", x.holds(NONE, line) != 0 ? 1 : 2, m.keep);
      }
    }
  }

  private static void compareOrders(String what, CacheLevels x, Model m) {
    for (int core = NONE; core < m.firsts.length; core++) {
      Cache cache = core == NONE ? m.second : m.firsts[core];
      for (int set = -1; set <= cache.sets.size(); set++) {
        boolean there = set >= 0 && set < cache.sets.size();
        List<Entry> entries = there ? cache.sets.get(set) : List.of();
        for (int k = -1; k <= entries.size(); k++) {
          int whose = core;
          int which = set;
          int rank = k;
          int want = k >= 0 && k < entries.size() ? entries.get(k).line : INDEX;
          due(what + "line", guarded(() -> x.line(whose, which, rank)), want);
        }
      }
    }
  }

  private static void compareCounts(String what, CacheLevels x, Model m) {
    int held = 0;
    for (int core = 0; core < m.firsts.length; core++) {
      for (int tally = 0; tally < 7; tally++) {
        due(what + "core " + core + ", " + tally, x.core(core, tally), m.tallies[core][tally]);
      }
      due(what + "owned", x.core(core, 7), m.owned(core));
      due(what + "accesses", x.core(core, 1) + x.core(core, 2) + x.core(core, 3), x.core(core, 0));
      held += m.firsts[core].total();
    }
    due(what + "write backs", x.count(0), m.writeBacks);
    due(what + "handed over", x.count(1), m.handed);
    due(what + "in the first", x.count(2), held);
    due(what + "in the second", x.count(3), m.second.total());
  }

  /** Any arguments, and far more calls than an object serves: only the face's own exceptions. */
  private static void callWildly(Random random) {
    CacheLevels x = new CacheLevels(any(random), any(random), any(random), any(random));
    for (int step = 0; step < 2000; step++) {
      int a = any(random);
      int b = any(random);
      int c = any(random);
      int which = random.nextInt(14);
      int got = guarded(() -> call(x, which, a, b, c));
      due("only the exceptions of the face", got == Integer.MIN_VALUE ? 1 : 0, 0);
    }
  }

  private static int any(Random random) {
    switch (random.nextInt(6)) {
      case 0:
        return random.nextInt();
      case 1:
        return random.nextBoolean() ? Integer.MIN_VALUE : Integer.MAX_VALUE;
      default:
        return random.nextInt(6) - 1;
    }
  }

  private static int call(CacheLevels x, int which, int a, int b, int c) {
    switch (which) {
      case 0:
        return x.quota(a, b);
      case 1:
        return x.bypass(a, b) ? 1 : 0;
      case 2:
        return x.flush();
      case 3:
        return x.holds(a, b);
      case 4:
        return x.version(a, b);
      case 5:
        return x.memory(a);
      case 6:
        return x.line(a, b, c);
      case 7:
        return x.owner(a);
      case 8:
        return x.directory(a);
      case 9:
        return x.core(a, b);
      case 10:
        return x.count(a);
      default:
        return x.access(a, b, c);
    }
  }
}
