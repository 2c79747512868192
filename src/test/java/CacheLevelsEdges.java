/**
 * Each sentence of the document that names a boundary case (too small, too large, empty, full, a
 * wrap-around, a refused call), one test each, the sentence above it or above its group. What an
 * access does with the lines is in CacheLevelsAccessEdges.
 */
public final class CacheLevelsEdges extends Checks {
  private static final int[] NO_CORE_OF_TWO = {LEAST, -2, 2, 3, 4, MOST};

  public static void main(String[] args) {
    newObjects();
    refusedCalls();
    settings();
    flushing();
    asking();
    end();
  }

  // ---- promise 1

  private static void newObjects() {
    argumentsWrapAround();
    nothingIsHeld();
    asManySetsAsTold();
  }

  /** "N is 1 + (cores - 1) modulo 4, the keeping keep modulo 3; .. (rests not below 0)" */
  private static void argumentsWrapAround() {
    dueSizes(1, 0, "1 0 1 1");
    dueSizes(0, 0, "4 0 8 16");
    dueSizes(-1, -1, "3 2 7 15");
    dueSizes(-2, -2, "2 1 6 14");
    dueSizes(-3, -3, "1 0 5 13");
    dueSizes(-4, -4, "4 2 4 12");
    dueSizes(-7, 1, "1 1 1 9");
    dueSizes(-8, 2, "4 2 8 8");
    dueSizes(-15, 3, "1 0 1 1");
    dueSizes(-16, 4, "4 1 8 16");
    dueSizes(4, 5, "4 2 4 4");
    dueSizes(5, 6, "1 0 5 5");
    dueSizes(8, 7, "4 1 8 8");
    dueSizes(9, 8, "1 2 1 9");
    dueSizes(16, 9, "4 0 8 16");
    dueSizes(17, 10, "1 1 1 1");
    dueSizes(MOST, MOST, "3 1 7 15");
    dueSizes(LEAST, LEAST, "4 1 8 16");
    dueSizes(LEAST + 1, LEAST + 1, "1 2 1 1");
  }

  private static void dueSizes(int size, int keep, String want) {
    CacheLevels x = new CacheLevels(size, keep, size, size);
    String got = x.count(4) + " " + x.count(5) + " " + x.count(6) + " " + x.count(7);
    due("new: of size " + size + ", keep " + keep, got, want);
  }

  /** "Nothing is held." */
  private static void nothingIsHeld() {
    for (int keep = 0; keep < 3; keep++) {
      CacheLevels x = new CacheLevels(2, keep, 2, 3);
      due("new: the caches", caches(x), "[][] [][] {}{}{}");
      due("new: line 0", see(x, 0), "00 0 owner -1 memory 0 version 0");
      due("new: line -1", see(x, -1), "00 0 owner -1 memory 0 version 0");
      due("new: no core has it", x.directory(0), 0);
      due("new: tallies", tallies(x, 0) + ", " + tallies(x, 1), "0 0 0 0 0 0 0 0, 0 0 0 0 0 0 0 0");
      due("new: counts", "" + x.count(0) + x.count(1) + x.count(2) + x.count(3), "0000");
      due("new: the quotas are W2", x.quota(0, 1) * 10 + x.quota(1, 1), 44);
      due("new: none pass by", x.bypass(0, 0), false);
      dueIndex("new: no line", () -> x.line(0, 0, 0));
      dueIndex("new: no line in the second", () -> x.line(NONE, 0, 0));
    }
  }

  /** "W1 is 2, W2 4", and all sets are there. */
  private static void asManySetsAsTold() {
    CacheLevels x = new CacheLevels(4, 0, 0, 0);
    for (int line = 0; line < 80; line++) {
      x.access(3, line, 0);
    }
    due("new: lines in 8 sets of 2", x.count(2), 16);
    due("new: lines in 16 sets of 4", x.count(3), 64);
    due("new: the last set", order(x, 3, 7) + ", " + order(x, NONE, 15), "79 71, 79 63 47 31");
    due("new: the first set", order(x, 3, 0) + ", " + order(x, NONE, 0), "72 64, 64 48 32 16");
    dueIndex("new: no ninth set", () -> x.line(3, 8, 0));
    dueIndex("new: no seventeenth set", () -> x.line(NONE, 16, 0));
  }

  // ---- "Of several exceptions the first one told is thrown", and refused calls change nothing

  private static void refusedCalls() {
    accessRefused();
    quotaRefused();
    holdsRefused();
    versionRefused();
    lineRefused();
    coreRefused();
    coresThatWrapAround();
    countOfAnotherWhat();
  }

  private static CacheLevels twoCores() {
    CacheLevels x = new CacheLevels(2, 0, 1, 1);
    run("refused: before", x, "0 r 1, 0 w 2", "33");
    return x;
  }

  private static void dueUnchanged(String what, CacheLevels x) {
    due(what + " changes no cache", caches(x), "[2w 1] [] {2@0 1@0}");
    due(what + " counts nothing", tallies(x, 0), "2 0 0 2 1 0 0 2");
    due(what + " counts nothing", tallies(x, 1), "0 0 0 0 0 0 0 0");
    due(what + " makes no version", x.version(0, 1) * 10 + x.version(0, 2), 1);
  }

  /** "IndexOutOfBoundsException (first) .."; "IllegalArgumentException, for another kind." */
  private static void accessRefused() {
    CacheLevels x = twoCores();
    for (int core : NO_CORE_OF_TWO) {
      dueIndex("access: core " + core, () -> x.access(core, 1, 0));
      dueIndex("access: core " + core + " writes", () -> x.access(core, 1, 1));
      dueIndex("access: core " + core + " and kind 2", () -> x.access(core, 1, 2));
    }
    dueIndex("access: core NONE", () -> x.access(NONE, 1, 0));
    dueIndex("access: core NONE and kind -1", () -> x.access(NONE, 1, -1));
    for (int kind : new int[] {LEAST, -1, 2, 3, MOST}) {
      dueArgument("access: kind " + kind, () -> x.access(0, 1, kind));
      dueArgument("access: kind " + kind + " of a new line", () -> x.access(1, 9, kind));
    }
    dueUnchanged("access refused", x);
    due("access: the last core", x.access(1, 1, 0), 2);
  }

  /** "IllegalArgumentException, when it is not 0 .. 4." */
  private static void quotaRefused() {
    CacheLevels x = twoCores();
    due("quota: the one before", x.quota(0, 0), 4);
    due("quota: 0 is one", x.quota(0, 4), 0);
    due("quota: 4 is one", x.quota(0, 3), 4);
    for (int ways : new int[] {LEAST, -1, 5, 6, MOST}) {
      dueArgument("quota: " + ways, () -> x.quota(0, ways));
      dueArgument("quota: " + ways + " of the last core", () -> x.quota(1, ways));
      dueIndex("quota: " + ways + " of core NONE", () -> x.quota(NONE, ways));
    }
    for (int core : NO_CORE_OF_TWO) {
      dueIndex("quota: core " + core, () -> x.quota(core, 1));
      dueIndex("quota: core " + core + " and -1", () -> x.quota(core, -1));
      dueIndex("quota: core " + core + " and 5", () -> x.quota(core, 5));
    }
    dueIndex("quota: core NONE", () -> x.quota(NONE, 1));
    dueUnchanged("quota refused", x);
    due("quota: refused ones set none", x.quota(0, 1) * 10 + x.quota(1, 1), 34);
  }

  /** "IndexOutOfBoundsException, when there is no such core (and it is not NONE)." */
  private static void holdsRefused() {
    CacheLevels x = twoCores();
    for (int core : NO_CORE_OF_TWO) {
      dueIndex("holds: core " + core, () -> x.holds(core, 1));
      dueIndex("holds: core " + core + ", no line", () -> x.holds(core, 9));
    }
    dueUnchanged("holds refused", x);
    due("holds: NONE", x.holds(NONE, 1), 1);
    CacheLevels one = new CacheLevels(1, 0, 1, 1);
    dueIndex("holds: the second core of one", () -> one.holds(1, 0));
  }

  /** "For all calls with a core: IndexOutOfBoundsException (first), when there is none." */
  private static void versionRefused() {
    CacheLevels x = twoCores();
    for (int core : NO_CORE_OF_TWO) {
      dueIndex("version: core " + core, () -> x.version(core, 2));
      dueIndex("version: core " + core + ", no line", () -> x.version(core, 9));
    }
    dueIndex("version: core NONE", () -> x.version(NONE, 2));
    dueUnchanged("version refused", x);
  }

  /** "IndexOutOfBoundsException, when there is no such core, set or line." */
  private static void lineRefused() {
    CacheLevels x = twoCores();
    for (int core : NO_CORE_OF_TWO) {
      dueIndex("line: core " + core, () -> x.line(core, 0, 0));
    }
    for (int wrong : new int[] {LEAST, -2, -1, 1, 2, MOST}) {
      dueIndex("line: set " + wrong, () -> x.line(0, wrong, 0));
      dueIndex("line: set " + wrong + " of the second", () -> x.line(NONE, wrong, 0));
    }
    for (int wrong : new int[] {LEAST, -2, -1, 2, 3, 4, MOST}) {
      dueIndex("line: the " + wrong + "th", () -> x.line(0, 0, wrong));
      dueIndex("line: the " + wrong + "th of the second", () -> x.line(NONE, 0, wrong));
    }
    dueIndex("line: an empty set", () -> x.line(1, 0, 0));
    due("line: the first and last that there are", x.line(0, 0, 0) * 10 + x.line(0, 0, 1), 21);
    due("line: of the second", x.line(NONE, 0, 0) * 10 + x.line(NONE, 0, 1), 21);
    dueUnchanged("line refused", x);
    lineRefusedBetweenSets();
  }

  /** A set or a k too large or too small must not lead into the next set, cache or core. */
  private static void lineRefusedBetweenSets() {
    CacheLevels x = new CacheLevels(2, 0, 2, 3);
    for (int line = 0; line < 12; line++) {
      x.access(0, line, 0);
      x.access(1, line, 0);
    }
    due("line: all sets are full", x.count(2) * 100 + x.count(3), 812);
    for (int core = 0; core < 2; core++) {
      int of = core;
      dueIndex("line: set -1 of core " + of, () -> x.line(of, -1, 0));
      dueIndex("line: set 2 of core " + of, () -> x.line(of, 2, 0));
      dueIndex("line: the -1st of core " + of, () -> x.line(of, 1, -1));
      dueIndex("line: the 2nd of core " + of, () -> x.line(of, 0, 2));
      due("line: the last of core " + of, x.line(of, 1, 1), 9);
    }
    dueIndex("line: set -1 of the second", () -> x.line(NONE, -1, 0));
    dueIndex("line: set 3 of the second", () -> x.line(NONE, 3, 0));
    dueIndex("line: the -1st of the second", () -> x.line(NONE, 1, -1));
    dueIndex("line: the 4th of the second", () -> x.line(NONE, 0, 4));
    due("line: the last of the second", x.line(NONE, 2, 3), 2);
  }

  /** "IndexOutOfBoundsException, also for another what." */
  private static void coreRefused() {
    CacheLevels x = twoCores();
    for (int what : new int[] {LEAST, -8, -7, -1, 8, 9, 14, MOST}) {
      dueIndex("core: what " + what, () -> x.core(0, what));
      dueIndex("core: what " + what + " of the last core", () -> x.core(1, what));
    }
    for (int core : NO_CORE_OF_TWO) {
      for (int what = -1; what <= 8; what++) {
        int of = what;
        dueIndex("core: core " + core + ", what " + of, () -> x.core(core, of));
      }
    }
    dueIndex("core: core NONE", () -> x.core(NONE, 0));
    dueIndex("core: core NONE, what 7", () -> x.core(NONE, 7));
    dueUnchanged("core refused", x);
  }

  /** "when there is no such core": nor one that, times the sets, wraps around to core 0 or 1. */
  private static void coresThatWrapAround() {
    for (int sets = 1; sets <= 8; sets *= 2) {
      CacheLevels x = new CacheLevels(2, 0, sets, 1);
      run("wrap: before", x, "0 w 0, 1 r 8", "33");
      for (int shift = 28; shift < 32; shift++) {
        for (int add = 0; add < 2; add++) {
          int core = (1 << shift) + add;
          dueIndex("wrap: access, core " + core, () -> x.access(core, 0, 1));
          dueIndex("wrap: quota, core " + core, () -> x.quota(core, 0));
          dueIndex("wrap: holds, core " + core, () -> x.holds(core, 0));
          dueIndex("wrap: version, core " + core, () -> x.version(core, 0));
          dueIndex("wrap: line, core " + core, () -> x.line(core, 0, 0));
          dueIndex("wrap: core, core " + core, () -> x.core(core, 0));
        }
      }
      due("wrap: nothing came of it", order(x, 0, 0) + " " + order(x, 1, 0), "0 8");
      due("wrap: nothing counted", each(x, 0) + " " + x.version(0, 0), "1 1 1");
    }
  }

  /** "NONE for another what." */
  private static void countOfAnotherWhat() {
    CacheLevels x = twoCores();
    for (int what : new int[] {LEAST, LEAST + 1, -8, -2, -1, 8, 9, 16, MOST}) {
      due("count: what " + what, x.count(what), NONE);
    }
    due("count: the first and the last", x.count(0) * 10 + x.count(7), 1);
    due("count: the constant", CacheLevels.NONE, -1);
  }

  // ---- promises 3 and 4

  private static void settings() {
    quotaLeavesWhatIsThere();
    bypassFromAboveTo();
    bypassCountsBothEnds();
    bypassLeavesWhatIsThere();
    bypassOfNoOthers();
  }

  /** "(What is there stays.)" */
  private static void quotaLeavesWhatIsThere() {
    for (int keep = 0; keep < 3; keep++) {
      CacheLevels x = new CacheLevels(1, keep, 1, 1);
      run("quota: fills", x, "0 w 1, 0 w 2, 0 w 3, 0 w 4, 0 w 5, 0 w 6", "333333");
      String before = caches(x);
      int back = x.count(0);
      due("quota: the one before, keeping " + keep, x.quota(0, 0), 4);
      due("quota: what is there stays, keeping " + keep, caches(x), before);
      due("quota: no write back, keeping " + keep, x.count(0) - back, 0);
      due("quota: its lines, keeping " + keep, x.core(0, 7), 4);
      run("quota: still a hit 2, keeping " + keep, x, "0 r 4", "2");
    }
  }

  /** "From above to: none pass by." */
  private static void bypassFromAboveTo() {
    int[][] empty = {{1, 0}, {MOST, LEAST}, {0, -1}, {MOST, MOST - 1}, {LEAST + 1, LEAST}};
    for (int[] ends : empty) {
      CacheLevels x = new CacheLevels(1, 0, 8, 16);
      due("bypass: none before", x.bypass(3, 5), false);
      due("bypass: some before", x.bypass(ends[0], ends[1]), true);
      x.access(0, ends[0], 0);
      x.access(0, ends[1], 0);
      x.access(0, 4, 0);
      due("bypass: from " + ends[0] + " none pass by", x.core(0, 7), 3);
      due("bypass: from " + ends[0] + " none did", x.bypass(9, 8), false);
    }
  }

  /** "Lines from to to (both counted) pass the second cache by" */
  private static void bypassCountsBothEnds() {
    dueBypass(3, 5, "2 6", "3 4 5");
    dueBypass(4, 4, "3 5", "4");
    dueBypass(-1, 0, "-2 1", "-1 0");
    dueBypass(-5, -3, "-6 -2 3 4 5", "-5 -4 -3");
    dueBypass(MOST, MOST, "2147483646 -2147483648", "2147483647");
    dueBypass(LEAST, LEAST, "2147483647 -2147483647", "-2147483648");
    dueBypass(LEAST, MOST, "", "2147483647 -2147483648 0 -1 1");
    dueBypass(0, MOST, "-1 -2147483648", "0 1 2147483647");
    dueBypass(LEAST, 0, "1 2147483647", "0 -1 -2147483648");
  }

  private static void dueBypass(int from, int to, String come, String pass) {
    CacheLevels x = new CacheLevels(1, 0, 8, 16);
    due("bypass: none before", x.bypass(from, to), false);
    for (String word : (come + " " + pass).trim().split(" ")) {
      int line = Integer.parseInt(word);
      x.access(0, line, 0);
      boolean passes = (" " + pass + " ").contains(" " + word + " ");
      due("bypass: from " + from + ", line " + line, x.owner(line), passes ? NONE : 0);
      due("bypass: the first has it", x.holds(0, line), 1);
    }
    due("bypass: some before, from " + from, x.bypass(from, to), true);
  }

  /** "(What is there stays.)" */
  private static void bypassLeavesWhatIsThere() {
    for (int keep = 0; keep < 3; keep++) {
      CacheLevels x = new CacheLevels(1, keep, 1, 1);
      run("bypass: fills", x, "0 w 1, 0 w 2, 0 w 3, 0 w 4, 0 w 5, 0 w 6", "333333");
      String before = caches(x);
      int back = x.count(0);
      due("bypass: none before, keeping " + keep, x.bypass(LEAST, MOST), false);
      due("bypass: what is there stays, keeping " + keep, caches(x), before);
      due("bypass: no write back, keeping " + keep, x.count(0) - back, 0);
      run("bypass: still a hit 2, keeping " + keep, x, "0 r 4", "2");
    }
  }

  /** "from now on, no others: whether some did before" */
  private static void bypassOfNoOthers() {
    CacheLevels x = new CacheLevels(1, 0, 8, 16);
    due("bypass: none before", x.bypass(1, 2), false);
    due("bypass: though none was used", x.bypass(4, 5), true);
    run("bypass: only the later ones", x, "0 r 1, 0 r 2, 0 r 3, 0 r 4, 0 r 5", "33333");
    due("bypass: only the later ones", x.core(0, 7), 3);
    x.flush();
    due("bypass: a flush leaves it so", x.bypass(1, 0), true);
    due("bypass: none any more", x.bypass(1, 0), false);
  }

  // ---- promise 5

  private static void flushing() {
    flushOfNothing();
    flushOfNothingWritten();
    flushOfLinesWrittenInBoth();
    flushOfTheSecondAlone();
    flushOfNoLineThatIsGone();
    flushLeavesTheRest();
  }

  private static void flushOfNothing() {
    for (int keep = 0; keep < 3; keep++) {
      CacheLevels x = new CacheLevels(2, keep, 1, 1);
      due("flush: nothing held, keeping " + keep, x.flush() + x.flush() + x.count(0), 0);
      due("flush: nothing held, keeping " + keep, caches(x), "[] [] {}");
    }
  }

  private static void flushOfNothingWritten() {
    for (int keep = 0; keep < 3; keep++) {
      CacheLevels x = new CacheLevels(2, keep, 1, 1);
      run("flush: reads", x, "0 r 1, 0 r 2, 0 r 3, 1 r 4", "3333");
      due("flush: nothing written, keeping " + keep, x.flush() + x.count(0), 0);
      due("flush: all are empty, keeping " + keep, caches(x), "[] [] {}");
      due("flush: all are empty, keeping " + keep, x.count(2) + x.count(3) + x.core(0, 7), 0);
      run("flush: so it is fetched, keeping " + keep, x, "0 r 1, 1 r 4", "33");
    }
  }

  /** "in the second cache only those that no first one has written" */
  private static void flushOfLinesWrittenInBoth() {
    for (int keep = 0; keep < 2; keep++) {
      CacheLevels x = new CacheLevels(2, keep, 1, 1);
      run("flush: written in both", x, "0 w 1, 1 r 1, 1 w 1, 0 w 2", "3213");
      due("flush: written in both", caches(x), "[2w] [1w] {2@0 1w@0}");
      due("flush: each once", x.flush(), 2);
      due("flush: each once", x.count(0), 2);
      due("flush: the first's version", x.memory(1) * 10 + x.memory(2), 21);
      due("flush: all are empty", caches(x), "[] [] {}");
      due("flush: nothing is left", x.flush() * 100 + x.memory(1) * 10 + x.memory(2), 21);
    }
  }

  private static void flushOfTheSecondAlone() {
    for (int keep = 0; keep < 2; keep++) {
      CacheLevels x = new CacheLevels(2, keep, 1, 1);
      run("flush: not written in the first", x, "0 w 1, 1 r 1", "32");
      due("flush: written in the second", caches(x), "[1] [1] {1w@0}");
      due("flush: one", x.flush() * 10 + x.memory(1), 11);
    }
    CacheLevels none = new CacheLevels(1, 2, 1, 1);
    run("flush: fills", none, "0 w 1, 0 w 2, 0 w 3, 0 w 4, 0 w 5, 0 w 6", "333333");
    due("flush: full", caches(none), "[6w 5w] {4w@0 3w@0 2w@0 1w@0}");
    due("flush: both levels", none.flush(), 6);
    due("flush: all went back", none.memory(1) + none.memory(4) + none.memory(6), 3);
  }

  /** "All written lines go to memory": none that was written, but is held no more. */
  private static void flushOfNoLineThatIsGone() {
    CacheLevels left = new CacheLevels(1, 0, 1, 1);
    left.quota(0, 0);
    run("flush: left the first", left, "0 w 1, 0 w 2, 0 r 3, 0 r 4", "3333");
    due("flush: left the first", backAndOver(left) + " " + left.flush(), "2 0 0");
    CacheLevels lost = new CacheLevels(2, 2, 1, 1);
    run("flush: lost by a write", lost, "0 w 1, 1 w 1", "33");
    due("flush: lost by a write", backAndOver(lost) + " " + lost.flush(), "1 1 1");
    CacheLevels back = new CacheLevels(1, 1, 2, 1);
    back.quota(0, 1);
    run("flush: lost by a back invalidation", back, "0 w 1, 0 r 2", "33");
    due("flush: lost by a back invalidation", backAndOver(back) + " " + back.flush(), "1 0 0");
    CacheLevels up = new CacheLevels(1, 2, 1, 1);
    run("flush: out of the second", up, "0 w 1, 0 r 2, 0 r 3, 0 r 1", "3332");
    due("flush: out of the second", backAndOver(up) + " " + up.flush(), "0 0 1");
    CacheLevels again = new CacheLevels(1, 2, 1, 1);
    run("flush: both full", again, "0 w 1, 0 w 2, 0 w 3, 0 w 4, 0 w 5, 0 w 6", "333333");
    due("flush: both full", again.flush() * 10 + again.flush(), 60);
    run("flush: then reads", again, "0 r 1, 0 r 2, 0 r 3, 0 r 4, 0 r 5, 0 r 6", "333333");
    due("flush: then nothing is written", caches(again), "[6 5] {4@0 3@0 2@0 1@0}");
    due("flush: then none goes back", again.flush() * 10 + again.count(0), 6);
  }

  private static void flushLeavesTheRest() {
    CacheLevels x = new CacheLevels(2, 1, 1, 1);
    x.quota(0, 2);
    x.bypass(9, 9);
    run("flush: before", x, "0 w 1, 1 r 1, 1 w 1, 0 r 9", "3213");
    due("flush: one", x.flush(), 1);
    due("flush: tallies stay", tallies(x, 0), "2 0 0 2 1 1 0 0");
    due("flush: tallies stay", tallies(x, 1), "2 1 1 0 1 0 0 0");
    due("flush: no line is handed over by it", backAndOver(x), "1 1");
    run("flush: it still passes by", x, "0 w 9", "3");
    due("flush: it still passes by", caches(x), "[] [] {}");
    due("flush: the quotas stay", x.quota(0, 4) * 10 + x.quota(1, 4), 24);
  }

  // ---- promises 6 to 13, as far as they answer

  private static void asking() {
    holdsOfNone();
    versionOfALineThatNoCacheHas();
    memoryOfALineNeverWritten();
    lineOfNone();
    ownerOfALineThatIsNotThere();
    directoryOfNoneAndAll();
    coreOfEachWhat();
    countOfEachWhat();
  }

  /** "of core NONE the second one" */
  private static void holdsOfNone() {
    CacheLevels x = new CacheLevels(1, 0, 1, 1);
    due("holds: of NONE, empty", x.holds(NONE, 1), 0);
    run("holds: written in the first alone", x, "0 w 1", "3");
    due("holds: of NONE, not written", x.holds(NONE, 1) * 10 + x.holds(0, 1), 12);
    run("holds: written in the second alone", x, "0 r 2, 0 r 3", "33");
    due("holds: of NONE, written", x.holds(NONE, 1) * 10 + x.holds(0, 1), 20);
    due("holds: of NONE, not there", x.holds(NONE, 4) * 10 + x.holds(0, 4), 0);
    CacheLevels none = new CacheLevels(1, 2, 1, 1);
    run("holds: keeping 2", none, "0 w 1", "3");
    due("holds: of NONE, in the first alone", none.holds(NONE, 1) * 10 + none.holds(0, 1), 2);
  }

  /** "The version of a line that a core would read now." */
  private static void versionOfALineThatNoCacheHas() {
    for (int keep = 0; keep < 3; keep++) {
      CacheLevels x = new CacheLevels(2, keep, 1, 1);
      for (int line : new int[] {LEAST, -1, 0, 1, MOST}) {
        due("version: never used, " + line, x.version(0, line) + x.version(1, line), 0);
      }
      run("version: two writes", x, "0 w 1, 0 w 1", "31");
      due("version: in the first", x.version(0, 1) * 10 + x.version(1, 1), 22);
      x.flush();
      due("version: in memory alone", x.version(0, 1) * 10 + x.version(1, 1), 22);
      run("version: read again", x, "1 r 1", "3");
      due("version: of the cache", x.version(0, 1) * 10 + x.version(1, 1), 22);
      due("version: asking fetches nothing", x.directory(1), 2);
    }
    CacheLevels none = new CacheLevels(2, 2, 1, 1);
    run("version: in the second alone", none, "0 w 1, 0 r 2, 0 r 3", "333");
    due("version: of the second", none.version(0, 1) * 10 + none.version(1, 1), 11);
    due("version: asking takes nothing out", none.holds(NONE, 1), 2);
  }

  /** "MEMORY has a VERSION of each line (0 at first)" */
  private static void memoryOfALineNeverWritten() {
    CacheLevels x = new CacheLevels(1, 0, 1, 1);
    for (int line : new int[] {LEAST, -1, 0, 1, MOST}) {
      due("memory: never used, " + line, x.memory(line), 0);
    }
    run("memory: one read, one written", x, "0 r 1, 0 w 0", "33");
    due("memory: not yet", x.memory(0), 0);
    x.flush();
    due("memory: read only", x.memory(1), 0);
    due("memory: written", x.memory(0), 1);
    for (int line : new int[] {LEAST, -512, -1, 16, 256, 512, 513, 65536, MOST}) {
      due("memory: no other line, " + line, x.memory(line), 0);
    }
  }

  /** "(of core NONE: of the second one) the k-th line, the one used last first" */
  private static void lineOfNone() {
    CacheLevels x = new CacheLevels(2, 0, 2, 3);
    run("line: some", x, "1 r 0, 1 r 3, 1 r 6, 1 r 9, 0 r 0, 1 r 5", "333323");
    due("line: of NONE", caches(x), "[0][] [6 0][5 9] {0@1 9@1 6@1 3@1}{}{5@1}");
    due("line: k is 0 to 3", x.line(NONE, 0, 0) * 100 + x.line(NONE, 0, 3), 3);
    dueIndex("line: an empty set of NONE", () -> x.line(NONE, 1, 0));
    dueIndex("line: the second of one", () -> x.line(NONE, 2, 1));
  }

  /** "NONE, when it is not there." */
  private static void ownerOfALineThatIsNotThere() {
    CacheLevels x = new CacheLevels(2, 0, 1, 1);
    due("owner: never used", x.owner(0) + x.owner(-1) + x.owner(LEAST), -3);
    x.quota(1, 0);
    run("owner: in a first cache alone", x, "1 r 1", "3");
    due("owner: in a first cache alone", x.owner(1), NONE);
    run("owner: it came by the one that fetched it", x, "0 r 1, 1 w 1", "31");
    due("owner: it came by the one that fetched it", x.owner(1), 0);
    run("owner: pushed out", x, "0 r 2, 0 r 3, 0 r 4, 0 r 5", "3333");
    due("owner: pushed out", x.owner(1), NONE);
    x.flush();
    due("owner: after a flush", x.owner(5), NONE);
  }

  /** "The cores whose first caches have a line, as bits." */
  private static void directoryOfNoneAndAll() {
    for (int keep = 0; keep < 3; keep++) {
      CacheLevels x = new CacheLevels(4, keep, 1, 1);
      due("directory: no core", x.directory(1) + x.directory(0) + x.directory(-1), 0);
      int[] want = {8, 9, 11, 15};
      int[] core = {3, 0, 1, 2};
      for (int i = 0; i < 4; i++) {
        x.access(core[i], 1, 0);
        due("directory: " + (i + 1) + " cores, keeping " + keep, x.directory(1), want[i]);
      }
      due("directory: of another line", x.directory(2), 0);
      run("directory: one writes", x, "2 w 1", "1");
      due("directory: one", x.directory(1), 4);
      run("directory: it leaves", x, "2 r 2, 2 r 3", "33");
      due("directory: in the second alone", x.directory(1) * 10 + x.holds(NONE, 1), 2);
      x.flush();
      due("directory: after a flush", x.directory(2), 0);
    }
  }

  /** "Of a core accesses (what 0), hits 1 (1), .., lines of its in the second cache (7)." */
  private static void coreOfEachWhat() {
    CacheLevels x = new CacheLevels(2, 1, 1, 1);
    run("core: of core 0", x, "0 r 1, 0 w 1, 0 w 1, 0 r 2, 0 r 3, 0 r 1", "311332");
    due("core: of core 0", tallies(x, 0), "6 2 1 3 2 0 0 3");
    due("core: of core 1", tallies(x, 1), "0 0 0 0 0 0 0 0");
    run("core: of core 1", x, "1 w 1, 1 w 3, 1 r 4, 1 r 5", "2233");
    due("core: of core 1", tallies(x, 1), "4 0 2 2 2 0 0 2");
    due("core: core 0 lost two by writes", tallies(x, 0), "6 2 1 3 2 2 0 2");
    run("core: back invalidations", x, "0 r 1, 0 r 6, 0 r 7", "233");
    due("core: of core 0", tallies(x, 0), "9 2 2 5 2 2 0 3");
    due("core: of core 1", tallies(x, 1), "4 0 2 2 2 0 1 1");
  }

  /** "Write backs (0), lines handed over (1), .., S2 (7)." */
  private static void countOfEachWhat() {
    CacheLevels x = new CacheLevels(3, 1, 2, 4);
    due("count: nothing", counts(x), "0 0 0 0 3 1 2 4");
    run("count: some", x, "0 w 1, 1 r 1, 2 r 1, 2 r 3, 2 w 2", "32233");
    due("count: one handed over", counts(x), "0 1 5 3 3 1 2 4");
    due("count: two go back", x.flush(), 2);
    due("count: after a flush", counts(x), "2 1 0 0 3 1 2 4");
  }

  private static String counts(CacheLevels x) {
    StringBuilder text = new StringBuilder();
    for (int what = 0; what < 8; what++) {
      text.append(what == 0 ? "" : " ").append(x.count(what));
    }
    return text.toString();
  }
}
