/**
 * Each sentence of the document's terms that names a boundary case of an access (promise 2): one
 * test each, the sentence above it or above its group. CacheLevelsEdges has the other promises.
 */
public final class CacheLevelsAccessEdges extends Checks {
  public static void main(String[] args) {
    limits();
    terms();
    steps();
    comingIntoTheFirst();
    comingIntoTheSecond();
    leavingTheSecond();
    notHeldWithKeepingOne();
    end();
  }

  // ---- "An object is used for at most 512 calls after it has been made"

  private static void limits() {
    mostLinesWritten();
    mostWritesOfOneLine();
    mostCallsCounted();
  }

  private static void mostLinesWritten() {
    CacheLevels x = new CacheLevels(1, 1, 1, 1);
    x.bypass(LEAST, MOST);
    int fetched = 0;
    for (int i = 0; i < 508; i++) {
      fetched += x.access(0, LEAST + i * 7919, 1) == 3 ? 1 : 0;
    }
    due("512 calls: all fetched", fetched, 508);
    due("512 calls: all went back", x.count(0), 508);
    due("512 calls: the first line", x.memory(LEAST), 1);
    due("512 calls: the last line", x.memory(LEAST + 507 * 7919), 1);
    CacheLevels y = new CacheLevels(4, 0, 8, 16);
    for (int line = 0; line < 256; line++) {
      y.access(line % 4, line, 1);
    }
    due("512 calls: lines go back at once or by a flush", y.count(0) + y.flush(), 256);
    int back = 0;
    for (int line = 0; line < 254; line++) {
      back += y.memory(line);
    }
    due("512 calls: each of version 1", back, 254);
  }

  private static void mostWritesOfOneLine() {
    CacheLevels x = new CacheLevels(2, 0, 1, 1);
    for (int i = 0; i < 509; i++) {
      x.access(i % 2, 5, 1);
    }
    due("512 calls: the version", x.version(1, 5), 509);
    due("512 calls: one goes back", x.flush(), 1);
    due("512 calls: it is in memory", x.memory(5), 509);
  }

  private static void mostCallsCounted() {
    CacheLevels x = new CacheLevels(1, 2, 1, 1);
    for (int i = 0; i < 509; i++) {
      x.access(0, 5, 1);
    }
    due("512 calls: accesses", x.core(0, 0), 509);
    due("512 calls: hits 1", x.core(0, 1), 508);
    due("512 calls: writes", x.core(0, 4), 509);
  }

  // ---- the terms

  private static void terms() {
    setsAreNotBelowZero();
    linesBelowZeroShareSets();
    setsInTheOrderOfLastUse();
    versionsOfEachLine();
    versionsOfLineZero();
  }

  /** "a line's set is line modulo the sets (not below 0)" */
  private static void setsAreNotBelowZero() {
    int[] lines = {LEAST, LEAST + 1, -17, -16, -15, -9, -8, -7, -2, -1, 0, 1, 7, 8, 15, 16, MOST};
    for (int sets = 1; sets <= 16; sets++) {
      for (int line : lines) {
        CacheLevels x = new CacheLevels(1, 0, sets, sets);
        x.access(0, line, 0);
        // All numbers of sets divide 720720, so adding this changes no rest.
        long above = line + 720720L * 4096;
        int own = (int) (above % x.count(6));
        int shared = (int) (above % sets);
        due("set: " + line + " in " + sets, order(x, 0, own), "" + line);
        due("set: " + line + " in the second's " + sets, order(x, NONE, shared), "" + line);
      }
    }
  }

  /** "a line's set is line modulo the sets (not below 0)" */
  private static void linesBelowZeroShareSets() {
    CacheLevels x = new CacheLevels(1, 0, 3, 2);
    run("set: below 0", x, "0 r -1, 0 w 2, 0 r -4, 0 r -3, 0 r 3, 0 r -2", "333333");
    due("set: below 0", caches(x), "[3 -3][-2][-4 2w] {-2@0 -4@0 2@0}{3@0 -3@0 -1@0}");
    due("set: line -1 is no sign of an empty place", x.access(0, -1, 0), 2);
    due("set: below 0", caches(x), "[3 -3][-2][-1 -4] {-2@0 -4@0 2w@0}{-1@0 3@0 -3@0}");
  }

  /** "A set has its lines in the order of their last use." */
  private static void setsInTheOrderOfLastUse() {
    CacheLevels x = new CacheLevels(2, 0, 1, 1);
    due("order: empty", caches(x), "[] [] {}");
    run("order: full", x, "0 r 1, 0 r 2, 0 r 3, 0 r 4", "3333");
    due("order: full", caches(x), "[4 3] [] {4@0 3@0 2@0 1@0}");
    run("order: the one used last", x, "0 r 4, 1 r 4", "12");
    due("order: the one used last", caches(x), "[4 3] [4] {4@0 3@0 2@0 1@0}");
    run("order: the one used longest ago", x, "0 r 3, 1 r 1", "12");
    due("order: the one used longest ago", caches(x), "[3 4] [1 4] {1@0 4@0 3@0 2@0}");
    run("order: one between", x, "1 r 3", "2");
    due("order: one between", caches(x), "[3 4] [3 1] {3@0 1@0 4@0 2@0}");
  }

  /** "MEMORY has a VERSION of each line (0 at first): each write makes a new one (1, 2, ..)" */
  private static void versionsOfEachLine() {
    CacheLevels x = new CacheLevels(2, 0, 1, 1);
    run("version: a read makes none", x, "0 r 1, 1 r 1", "32");
    due("version: 0 at first", see(x, 1), "11 1 owner 0 memory 0 version 0");
    run("version: hit 1, hit 2, from memory", x, "0 w 1, 1 w 1, 1 w 2, 1 w 2", "1231");
    due("version: each line has its own", x.version(0, 1) * 10 + x.version(0, 2), 22);
    x.flush();
    run("version: it goes on from memory's", x, "0 w 1", "3");
    due("version: it goes on", see(x, 1), "20 1 owner 0 memory 2 version 3");
  }

  /** "MEMORY has a VERSION of each line": of line 0, too, which is no sign of an unused place. */
  private static void versionsOfLineZero() {
    CacheLevels x = new CacheLevels(1, 0, 8, 16);
    run("version: line 0", x, "0 w 0, 0 w 5, 0 w 0, 0 w 6, 0 w 0", "33131");
    due("version: line 0", x.version(0, 0), 3);
    due("version: others", x.version(0, 5) * 10 + x.version(0, 6), 11);
    due("version: three go back", x.flush(), 3);
    due("version: in memory", x.memory(0) * 100 + x.memory(5) * 10 + x.memory(6), 311);
  }

  // ---- the steps 1 to 5 of an access

  private static void steps() {
    hitsOfWhatTheSecondHasNot();
    ownWrittenLinesAreNotHandedOver();
    handedOverToTheSecond();
    handedOverToMemory();
    handedOverOnce();
    hitsInTheSecondWithoutAQuota();
    hitsInTheSecondWithKeepingNone();
    notWrittenInTheFirst();
    writesOfAllOthersLines();
  }

  /** "1 It is in the core's first cache: HIT 1, it is used last." */
  private static void hitsOfWhatTheSecondHasNot() {
    CacheLevels x = new CacheLevels(2, 0, 1, 1);
    run("1: pushed out of the second", x, "0 r 1, 1 r 2, 1 r 3, 1 r 4, 1 r 5, 0 r 1", "333331");
    due("1: the second stays", caches(x), "[1] [5 4] {5@1 4@1 3@1 2@1}");
    for (int keep = 0; keep < 3; keep++) {
      CacheLevels y = new CacheLevels(1, keep, 1, 1);
      run("1: before it passes by", y, "0 r 1", "3");
      y.bypass(1, 1);
      y.quota(0, 0);
      run("1: it is there, so a hit", y, "0 r 1, 0 w 1", "11");
      due("1: written in the first", y.holds(0, 1) + y.count(0), 2);
    }
  }

  /** "2 Else, when another core's first cache has it written" */
  private static void ownWrittenLinesAreNotHandedOver() {
    for (int keep = 0; keep < 3; keep++) {
      CacheLevels x = new CacheLevels(2, keep, 1, 1);
      run("2: its own", x, "0 w 1, 0 r 1, 0 w 1, 1 r 2, 0 r 2", "311" + (keep == 2 ? "33" : "32"));
      due("2: none handed over, keeping " + keep, backAndOver(x), "0 0");
      due("2: still written, keeping " + keep, x.holds(0, 1), 2);
    }
  }

  /** "what it wrote goes to the second cache, if that has the line" */
  private static void handedOverToTheSecond() {
    for (int keep = 0; keep < 2; keep++) {
      CacheLevels x = new CacheLevels(4, keep, 1, 1);
      run("2: of the last core", x, "3 w 1, 0 r 1", "32");
      due("2: of the last core", caches(x), "[1] [] [] [1] {1w@3}");
      due("2: of the last core", backAndOver(x), "0 1");
      run("2: of the first core", x, "0 w 1, 3 r 1", "12");
      due("2: of the first core", caches(x), "[1] [] [] [1] {1w@3}");
      due("2: of the first core", backAndOver(x), "0 2");
      due("2: of this version", x.version(3, 1) * 10 + x.version(2, 1), 22);
      run("2: to a writing core", x, "0 w 1, 1 w 1", "12");
      due("2: to a writing core", caches(x), "[] [1w] [] [] {1w@3}");
      due("2: to a writing core", see(x, 1), "0200 2 owner 3 memory 0 version 4");
      due("2: to a writing core", backAndOver(x), "0 3");
      x.bypass(1, 1);
      run("2: it passes by, but it is there", x, "2 r 1", "2");
      due("2: it passes by, but it is there", caches(x), "[] [1] [1] [] {1w@3}");
      due("2: it passes by, but it is there", backAndOver(x), "0 4");
    }
  }

  /** "else to memory (a WRITE BACK)" */
  private static void handedOverToMemory() {
    CacheLevels left = new CacheLevels(2, 0, 1, 1);
    run("2: it left the second", left, "0 w 1, 1 r 2, 1 r 3, 1 r 4, 1 r 5, 1 r 1", "333333");
    due("2: it left the second", caches(left), "[1] [1 5] {1@1 5@1 4@1 3@1}");
    due("2: it left the second", backAndOver(left), "1 1");
    due("2: it left the second", left.memory(1), 1);
    CacheLevels past = new CacheLevels(2, 0, 1, 1);
    past.bypass(1, 1);
    run("2: it passes by", past, "0 w 1, 1 w 1", "33");
    due("2: it passes by", caches(past), "[] [1w] {}");
    due("2: it passes by", backAndOver(past), "1 1");
    due("2: it passes by", past.memory(1) * 10 + past.version(0, 1), 12);
    CacheLevels none = new CacheLevels(2, 2, 1, 1);
    run("2: keeping 2", none, "1 w 1, 0 r 1", "33");
    due("2: keeping 2", caches(none), "[1] [1] {}");
    due("2: keeping 2", backAndOver(none), "1 1");
    due("2: keeping 2", none.memory(1), 1);
  }

  /** "that one's line is no more written" */
  private static void handedOverOnce() {
    for (int keep = 0; keep < 3; keep++) {
      CacheLevels x = new CacheLevels(3, keep, 1, 1);
      run("2: once", x, "0 w 1, 1 r 1, 2 r 1", keep == 2 ? "333" : "322");
      due("2: once, keeping " + keep, x.count(1), 1);
      due("2: not written, keeping " + keep, x.holds(0, 1) + x.holds(1, 1) + x.holds(2, 1), 3);
      due("2: one goes back at last, keeping " + keep, x.count(0) + x.flush(), 1);
    }
  }

  /** "3 Then, when the second cache has it: HIT 2: it is used last there" */
  private static void hitsInTheSecondWithoutAQuota() {
    for (int keep = 0; keep < 2; keep++) {
      CacheLevels x = new CacheLevels(2, keep, 1, 1);
      run("3: two lines", x, "0 r 1, 0 r 2", "33");
      x.quota(1, 0);
      run("3: hit 2 with a quota of 0", x, "1 r 1", "2");
      due("3: the owner stays", caches(x), "[2 1] [1] {1@0 2@0}");
      x.bypass(2, 2);
      run("3: hit 2 of a line that passes by", x, "1 w 2", "2");
      due("3: it is used last", caches(x), "[1] [2w 1] {2@0 1@0}");
    }
  }

  /** "with keeping 2 it leaves that cache (written or not, it comes so to the first one)" */
  private static void hitsInTheSecondWithKeepingNone() {
    CacheLevels x = new CacheLevels(2, 2, 1, 1);
    run("3: two in the second", x, "0 w 1, 0 r 2, 0 r 3, 0 r 4", "3333");
    due("3: two in the second", caches(x), "[4 3] [] {2@0 1w@0}");
    run("3: one written", x, "1 r 1", "2");
    due("3: one written", caches(x), "[4 3] [1w] {2@0}");
    run("3: one not written", x, "1 r 2", "2");
    due("3: one not written", caches(x), "[4 3] [2 1w] {}");
    due("3: no write back", backAndOver(x), "0 0");
    CacheLevels past = new CacheLevels(1, 2, 1, 1);
    run("3: one in the second", past, "0 r 1, 0 r 2, 0 r 3", "333");
    past.bypass(1, 1);
    run("3: it passes by, but it is there", past, "0 r 1", "2");
    due("3: it passes by, but it is there", caches(past), "[1 3] {2@0}");
    past.quota(0, 0);
    run("3: a quota of 0, but it is there", past, "0 r 2", "2");
    due("3: a quota of 0, but it is there", caches(past), "[2 1] {}");
  }

  /** "4 It comes into the core's first cache (with keeping 0 and 1 not written)." */
  private static void notWrittenInTheFirst() {
    for (int keep = 0; keep < 2; keep++) {
      CacheLevels x = new CacheLevels(1, keep, 1, 1);
      run("4: written in the second", x, "0 w 1, 0 r 2, 0 r 3, 0 r 1", "3332");
      due("4: written in the second alone", caches(x), "[1 3] {1w@0 3@0 2@0}");
      due("4: of the second's version", see(x, 1), "1 2 owner 0 memory 0 version 1");
      run("4: written anew", x, "0 w 1", "1");
      due("4: written anew", caches(x), "[1w 3] {1w@0 3@0 2@0}");
      due("4: written anew", x.version(0, 1), 2);
    }
  }

  /** "5 A write (also of a hit): all other first caches lose the line (if they have it ..)" */
  private static void writesOfAllOthersLines() {
    for (int keep = 0; keep < 3; keep++) {
      CacheLevels x = new CacheLevels(4, keep, 1, 1);
      run("5: no other has it", x, "0 w 1, 0 w 1", "31");
      due("5: no other has it", each(x, 5), "0 0 0 0");
      x.flush();
      run("5: all have it", x, "0 r 1, 1 r 1, 2 r 1, 3 r 1", keep == 2 ? "3333" : "3222");
      run("5: the first core writes", x, "0 w 1", "1");
      due("5: the first core writes", each(x, 5), "0 1 1 1");
      due("5: it alone has it", x.directory(1), 1);
      run("5: all have it", x, "1 r 1, 2 r 1, 3 r 1", keep == 2 ? "333" : "222");
      run("5: the last core writes", x, "3 w 1", "1");
      due("5: the last core writes", each(x, 5), "1 2 2 1");
      due("5: it alone has it", x.directory(1), 8);
      run("5: one has it, and another writes", x, "1 w 1", keep == 2 ? "3" : "2");
      due("5: one has it, and another writes", each(x, 5), "1 2 2 2");
      due("5: no back invalidations", each(x, 6), "0 0 0 0");
      due("5: other lines stay", x.count(2), 1);
    }
  }

  // ---- "COMING into a first cache whose set is full: the line used longest ago leaves it."

  private static void comingIntoTheFirst() {
    onePlaceIsFree();
    fullOfUnwrittenLines();
    fullAndWrittenAndInTheSecond();
    fullAndWrittenAndNotInTheSecond();
    theSecondMakesRoomFirst();
    keepingNoneSendsItDown();
    keepingNoneSendsNoneThatPassesBy();
    keepingNoneSendsNoneThatAnotherHas();
    keepingNoneWithAFullSecond();
  }

  private static void onePlaceIsFree() {
    for (int keep = 0; keep < 3; keep++) {
      CacheLevels x = new CacheLevels(1, keep, 2, 1);
      run("first: not full", x, "0 w 2, 0 w 4, 0 w 1", "333");
      due("first: all stay, keeping " + keep, caches(x).substring(0, 12), "[4w 2w][1w] ");
      due("first: no write back, keeping " + keep, x.count(0), 0);
    }
  }

  private static void fullOfUnwrittenLines() {
    CacheLevels x = new CacheLevels(1, 0, 1, 1);
    x.quota(0, 0);
    run("first: not written", x, "0 r 1, 0 r 2, 0 r 1, 0 r 3", "3313");
    due("first: the one used longest ago left, nowhere to", caches(x), "[3 1] {}");
    due("first: no write back", x.count(0), 0);
    CacheLevels y = new CacheLevels(1, 0, 1, 1);
    run("first: not written", y, "0 r 1, 0 r 2, 0 r 3", "333");
    due("first: the second stays", caches(y), "[3 2] {3@0 2@0 1@0}");
  }

  /** "it goes to the second cache's line, if there is one, as in 2": there its place stays */
  private static void fullAndWrittenAndInTheSecond() {
    for (int keep = 0; keep < 2; keep++) {
      CacheLevels x = new CacheLevels(1, keep, 1, 1);
      run("first: written", x, "0 w 1", "3");
      x.bypass(1, 1);
      run("first: written, passes by", x, "0 r 2, 0 r 3", "33");
      due("first: to the second's line", caches(x), "[3 2] {3@0 2@0 1w@0}");
      due("first: no write back", backAndOver(x), "0 0");
      due("first: of its version", x.version(0, 1), 1);
    }
  }

  /** "else to memory (a write back)" */
  private static void fullAndWrittenAndNotInTheSecond() {
    CacheLevels x = new CacheLevels(1, 0, 1, 1);
    x.quota(0, 0);
    run("first: written", x, "0 w 1, 0 w 1, 0 r 2, 0 r 3", "3133");
    due("first: to memory", caches(x), "[3 2] {}");
    due("first: a write back", backAndOver(x), "1 0");
    due("first: of its version", x.memory(1), 2);
  }

  /** Step 3 stands before step 4: what leaves the second cache may make room in the first. */
  private static void theSecondMakesRoomFirst() {
    CacheLevels all = new CacheLevels(1, 1, 1, 1);
    all.quota(0, 2);
    run("first: full", all, "0 w 1, 0 w 2, 0 r 1, 0 r 3", "3313");
    due("first: the one that left the second", caches(all), "[3 2w] {3@0 2@0}");
    due("first: lost by a back invalidation", all.core(0, 6), 1);
    due("first: one write back", all.count(0) * 10 + all.memory(1), 11);
    CacheLevels free = new CacheLevels(1, 0, 1, 1);
    free.quota(0, 2);
    run("first: full", free, "0 w 1, 0 w 2, 0 r 1, 0 r 3", "3313");
    due("first: the one used longest ago", caches(free), "[3 1w] {3@0 2w@0}");
    due("first: no write back", free.count(0), 0);
  }

  /** "With keeping 2 .. it comes into the second one, as it is, owned by this core" */
  private static void keepingNoneSendsItDown() {
    CacheLevels x = new CacheLevels(2, 2, 1, 1);
    run("first: one written, one not", x, "1 w 1, 1 r 2, 1 r 3, 1 r 4", "3333");
    due("first: both as they are", caches(x), "[] [4 3] {2@1 1w@1}");
    due("first: of their versions", x.version(0, 1) * 10 + x.version(0, 2), 10);
    run("first: by way of core 0", x, "0 r 1, 0 r 5, 0 r 6", "233");
    due("first: now owned by core 0", caches(x), "[6 5] [4 3] {1w@0 2@1}");
    due("first: no write back", backAndOver(x), "0 0");
  }

  /** "unless it passes by": "otherwise, if it is written: .. to memory (a write back)" */
  private static void keepingNoneSendsNoneThatPassesBy() {
    CacheLevels x = new CacheLevels(1, 2, 1, 1);
    run("first: before they pass by", x, "0 w 1, 0 r 2", "33");
    x.bypass(1, 2);
    run("first: written", x, "0 r 3", "3");
    due("first: written", caches(x) + x.memory(1) + x.count(0), "[3 2] {}11");
    run("first: not written", x, "0 r 4", "3");
    due("first: not written", caches(x) + x.memory(2) + x.count(0), "[4 3] {}01");
    run("first: the next does not pass by", x, "0 r 1", "3");
    due("first: the next does not pass by", caches(x), "[1 4] {3@0}");
  }

  /** "or another first cache has it" */
  private static void keepingNoneSendsNoneThatAnotherHas() {
    CacheLevels x = new CacheLevels(3, 2, 1, 1);
    run("first: all have it", x, "0 r 1, 1 r 1, 2 r 1", "333");
    run("first: one loses it", x, "0 r 2, 0 r 3", "33");
    due("first: two have it", caches(x), "[3 2] [1] [1] {}");
    run("first: another loses it", x, "2 r 4, 2 r 5", "33");
    due("first: one has it", caches(x), "[3 2] [1] [5 4] {}");
    run("first: the last loses it", x, "1 r 6, 1 r 7", "33");
    due("first: none has it", caches(x), "[3 2] [7 6] [5 4] {1@1}");
  }

  private static void keepingNoneWithAFullSecond() {
    CacheLevels x = new CacheLevels(1, 2, 1, 1);
    run("first: fills both", x, "0 w 1, 0 r 2, 0 r 3, 0 r 4, 0 r 5, 0 r 6", "333333");
    due("first: both are full", caches(x), "[6 5] {4@0 3@0 2@0 1w@0}");
    run("first: a hit 2 makes its own room", x, "0 r 2", "2");
    due("first: a hit 2 makes its own room", caches(x), "[2 6] {5@0 4@0 3@0 1w@0}");
    due("first: nothing went back", x.count(0), 0);
    run("first: a fetch makes none", x, "0 r 7", "3");
    due("first: a fetch makes none", caches(x), "[7 2] {6@0 5@0 4@0 3@0}");
    due("first: the one that left went back", x.count(0) * 10 + x.memory(1), 11);
    run("first: not written, so not", x, "0 r 8", "3");
    due("first: not written, so not", caches(x) + x.count(0), "[8 7] {2@0 6@0 5@0 4@0}1");
  }

  // ---- "COMING into the second cache: when the core has already as many lines .. as its QUOTA"

  private static void comingIntoTheSecond() {
    everyQuota();
    quotaReachedInASetWithRoom();
    quotaReachedInAFullSet();
    quotaNotReachedInAFullSet();
    quotaOfEachSet();
    quotaCountsWhatCameByTheCore();
    quotaLoweredBelowWhatIsThere();
    quotaOfZeroOnTheWayDown();
  }

  private static void everyQuota() {
    String[] left = {"{}", "{9@0}", "{9@0 8@0}", "{9@0 8@0 7@0}", "{9@0 8@0 7@0 6@0}"};
    for (int ways = 0; ways <= 4; ways++) {
      CacheLevels x = new CacheLevels(1, 0, 1, 1);
      x.quota(0, ways);
      run("second: quota " + ways, x, "0 r 5, 0 r 6, 0 r 7, 0 r 8, 0 r 9", "33333");
      due("second: quota " + ways, caches(x), "[9 8] " + left[ways]);
      due("second: lines of quota " + ways, x.core(0, 7), ways);
    }
  }

  /** "that of its lines there which was used longest ago leaves": used, not come */
  private static void quotaReachedInASetWithRoom() {
    CacheLevels x = new CacheLevels(2, 0, 1, 1);
    x.quota(0, 2);
    run("second: two of core 0", x, "0 r 1, 0 r 2, 1 r 1", "332");
    run("second: a third", x, "0 r 3", "3");
    due("second: the longest ago used of its lines", caches(x), "[3 2] [1] {3@0 1@0}");
    CacheLevels none = new CacheLevels(2, 2, 1, 1);
    none.quota(0, 1);
    run("second: one of core 1", none, "1 r 11, 1 r 12, 1 r 13", "333");
    run("second: two of core 0", none, "0 w 1, 0 r 2, 0 r 3, 0 r 4", "3333");
    due("second: its own left", caches(none), "[4 3] [13 12] {2@0 11@1}");
    due("second: with a write back", none.count(0) * 10 + none.memory(1), 11);
  }

  private static void quotaReachedInAFullSet() {
    CacheLevels x = new CacheLevels(2, 0, 1, 1);
    run("second: full", x, "0 r 1, 1 r 2, 1 r 3, 1 r 4", "3333");
    x.quota(1, 3);
    run("second: one more of core 1", x, "1 r 5", "3");
    due("second: its own, not that of all", caches(x), "[1] [5 4] {5@1 4@1 3@1 1@0}");
  }

  /** "else, when the set is full, that used longest ago of all" */
  private static void quotaNotReachedInAFullSet() {
    CacheLevels x = new CacheLevels(2, 0, 1, 1);
    x.quota(0, 2);
    run("second: full", x, "1 r 2, 0 r 1, 1 r 3, 1 r 4, 0 r 5", "33333");
    due("second: that of all, another's", caches(x), "[5 1] [4 3] {5@0 4@1 3@1 1@0}");
    run("second: one more of core 1", x, "1 r 6", "3");
    due("second: that of all, another's", caches(x), "[5 1] [6 4] {6@1 5@0 4@1 3@1}");
  }

  private static void quotaOfEachSet() {
    CacheLevels x = new CacheLevels(1, 0, 1, 3);
    x.quota(0, 1);
    run("second: one in each set", x, "0 r 0, 0 r 1, 0 r 2", "333");
    due("second: one in each set", caches(x), "[2 1] {0@0}{1@0}{2@0}");
    run("second: another in the last", x, "0 r -1", "3");
    due("second: another in the last", caches(x), "[-1 2] {0@0}{1@0}{-1@0}");
  }

  private static void quotaCountsWhatCameByTheCore() {
    CacheLevels x = new CacheLevels(2, 0, 1, 1);
    x.quota(1, 1);
    run("second: read by 1, came by 0", x, "0 r 1, 0 r 2, 1 r 1, 1 r 2, 1 r 3", "33223");
    due("second: only one came by 1", caches(x), "[2 1] [3 2] {3@1 2@0 1@0}");
    run("second: one more", x, "1 r 4", "3");
    due("second: that one left", caches(x), "[2 1] [4 3] {4@1 2@0 1@0}");
  }

  private static void quotaLoweredBelowWhatIsThere() {
    CacheLevels x = new CacheLevels(2, 0, 1, 1);
    run("second: three of core 1", x, "0 r 1, 1 r 2, 1 r 3, 1 r 4", "3333");
    x.quota(1, 1);
    due("second: what is there stays", caches(x), "[1] [4 3] {4@1 3@1 2@1 1@0}");
    run("second: one more", x, "1 r 5", "3");
    due("second: one left for it", caches(x), "[1] [5 4] {5@1 4@1 3@1 1@0}");
    x.quota(1, 4);
    run("second: raised again", x, "1 r 6", "3");
    due("second: that of all left", caches(x), "[1] [6 5] {6@1 5@1 4@1 3@1}");
  }

  /** "0: then it does not come at all, and goes to memory if it is written" */
  private static void quotaOfZeroOnTheWayDown() {
    CacheLevels x = new CacheLevels(2, 2, 1, 1);
    run("second: quota 4", x, "0 w 1, 0 r 2, 0 r 3", "333");
    due("second: it came", caches(x), "[3 2] [] {1w@0}");
    x.quota(0, 0);
    run("second: quota 0, not written", x, "0 w 4", "3");
    due("second: it does not come", caches(x) + x.count(0), "[4w 3] [] {1w@0}0");
    run("second: quota 0, written", x, "0 r 5, 0 r 6", "33");
    due("second: it goes to memory", caches(x) + x.count(0), "[6 5] [] {1w@0}1");
    due("second: it is in memory", x.memory(4), 1);
    run("second: the other core's quota stays", x, "1 r 7, 1 r 8, 1 r 9", "333");
    due("second: it comes", caches(x), "[6 5] [9 8] {7@1 1w@0}");
  }

  // ---- "A line that LEAVES the second cache"

  private static void leavingTheSecond() {
    allFirstCachesLoseIt();
    noFirstCacheHasIt();
    theFirstsVersionCounts();
    writtenInTheSecondAlone();
    otherKeepingsLoseNothing();
  }

  /** "with keeping 1 all first caches lose it (a BACK INVALIDATION each)" */
  private static void allFirstCachesLoseIt() {
    CacheLevels x = new CacheLevels(4, 1, 1, 1);
    run("leaves: all have it", x, "0 r 1, 1 r 1, 2 r 1, 3 r 1, 2 r 7", "32223");
    x.quota(0, 1);
    run("leaves: it leaves", x, "0 r 2", "3");
    due("leaves: all lost it, and nothing else", caches(x), "[2] [] [7] [] {2@0 7@2}");
    due("leaves: a back invalidation each", each(x, 6), "1 1 1 1");
    due("leaves: not by writes", each(x, 5), "0 0 0 0");
    due("leaves: not written, so no write back", backAndOver(x), "0 0");
  }

  private static void noFirstCacheHasIt() {
    CacheLevels x = new CacheLevels(2, 1, 1, 1);
    x.quota(0, 3);
    run("leaves: none has it", x, "0 r 1, 0 r 2, 0 r 3, 0 r 4", "3333");
    due("leaves: none has it", caches(x), "[4 3] [] {4@0 3@0 2@0}");
    due("leaves: no back invalidation", each(x, 6), "0 0");
  }

  /** "if one of these has it written, that version counts" */
  private static void theFirstsVersionCounts() {
    CacheLevels x = new CacheLevels(3, 1, 1, 1);
    run("leaves: written in both", x, "0 w 1, 2 r 1, 2 w 1", "321");
    due("leaves: written in both", caches(x), "[] [] [1w] {1w@0}");
    x.quota(0, 1);
    run("leaves: written in both", x, "0 r 2", "3");
    due("leaves: one write back, of version 2", x.count(0) * 10 + x.memory(1), 12);
    due("leaves: the one that had it lost it", each(x, 6), "0 0 1");
    CacheLevels y = new CacheLevels(1, 1, 2, 1);
    y.quota(0, 1);
    run("leaves: written in the first alone", y, "0 w 1, 0 w 1, 0 r 2", "313");
    due("leaves: one write back, of version 2", y.count(0) * 10 + y.memory(1), 12);
    due("leaves: it is gone", caches(y), "[2][] {2@0}");
  }

  /** "if it is written (there or so), it goes to memory (a write back)" */
  private static void writtenInTheSecondAlone() {
    for (int keep = 0; keep < 2; keep++) {
      CacheLevels x = new CacheLevels(2, keep, 1, 1);
      run("leaves: handed over", x, "0 w 1, 1 r 1", "32");
      x.quota(0, 1);
      run("leaves: written there", x, "0 r 2", "3");
      due("leaves: one write back, of version 1", x.count(0) * 10 + x.memory(1), 11);
      due("leaves: keeping " + keep, caches(x), keep == 0 ? "[2 1] [1] {2@0}" : "[2] [] {2@0}");
    }
  }

  private static void otherKeepingsLoseNothing() {
    CacheLevels x = new CacheLevels(2, 0, 1, 1);
    run("leaves: written in both", x, "0 w 1, 1 r 1, 1 w 1", "321");
    x.quota(0, 1);
    run("leaves: keeping 0", x, "0 r 2", "3");
    due("leaves: the first keeps it", caches(x), "[2] [1w] {2@0}");
    due("leaves: the second's version", x.count(0) * 10 + x.memory(1), 11);
    due("leaves: no back invalidation", each(x, 6), "0 0");
    run("leaves: the newer one goes down later", x, "0 r 1", "3");
    due("leaves: the newer one goes down later", backAndOver(x) + " " + x.memory(1), "2 2 2");
  }

  // ---- "With keeping 1 lines that the second cache has not, and that pass by, or can not come for
  // a quota of 0, are not held by first caches either"

  private static void notHeldWithKeepingOne() {
    passingByIsNotHeld();
    quotaOfZeroIsNotHeld();
    whatTheSecondHasIsHeld();
    otherKeepingsHoldIt();
  }

  private static void passingByIsNotHeld() {
    CacheLevels x = new CacheLevels(2, 1, 1, 1);
    run("not held: full before", x, "0 w 1, 0 r 2", "33");
    x.bypass(7, 8);
    run("not held: passes by", x, "0 r 7, 0 r 7, 1 r 7, 0 r 8", "3333");
    due("not held: no room was made", caches(x), "[2 1w] [] {2@0 1@0}");
    due("not held: a read goes nowhere", x.count(0), 0);
    run("not held: writes", x, "0 w 7, 1 w 7, 1 w 8", "333");
    due("not held: no room was made", caches(x), "[2 1w] [] {2@0 1@0}");
    due("not held: to memory at once", backAndOver(x), "3 0");
    due("not held: the next version", x.memory(7) * 10 + x.memory(8), 21);
    due("not held: a core would read memory's", x.version(0, 7) * 10 + x.version(1, 8), 21);
    due("not held: accesses, fetches and writes", tallies(x, 1), "3 0 0 3 2 0 0 0");
    due("not held: no line is lost", each(x, 5) + each(x, 6), "0 00 0");
    x.bypass(1, 0);
    run("not held: no more", x, "0 r 7", "3");
    due("not held: no more", caches(x) + x.version(0, 7), "[7 2] [] {7@0 2@0 1w@0}2");
  }

  private static void quotaOfZeroIsNotHeld() {
    CacheLevels x = new CacheLevels(2, 1, 1, 1);
    x.quota(1, 0);
    run("not held: quota 0", x, "1 r 7, 1 w 7, 1 w 7, 1 r 7", "3333");
    due("not held: quota 0", caches(x), "[] [] {}");
    due("not held: to memory at once", x.count(0) * 10 + x.memory(7), 22);
    run("not held: the other core's is", x, "0 r 7", "3");
    due("not held: the other core's is", caches(x), "[7] [] {7@0}");
    x.quota(1, 1);
    run("not held: no more", x, "1 w 8", "3");
    due("not held: no more", caches(x) + x.count(0), "[7] [8w] {8@1 7@0}2");
  }

  private static void whatTheSecondHasIsHeld() {
    CacheLevels x = new CacheLevels(2, 1, 1, 1);
    run("held: came before", x, "0 r 7", "3");
    x.bypass(7, 7);
    x.quota(1, 0);
    run("held: by a core with a quota of 0", x, "1 w 7, 1 r 7", "21");
    due("held: it is there", caches(x), "[] [7w] {7@0}");
    due("held: no write back", x.count(0), 0);
    run("held: it is pushed out", x, "0 r 1, 0 r 2, 0 r 3, 0 r 4", "3333");
    due("held: it is pushed out", caches(x), "[4 3] [] {4@0 3@0 2@0 1@0}");
    due("held: it went back", x.count(0) * 10 + x.memory(7), 11);
    run("held: no more", x, "0 w 7, 1 w 7", "33");
    due("held: no more", caches(x), "[4 3] [] {4@0 3@0 2@0 1@0}");
    due("held: to memory at once", x.count(0) * 10 + x.memory(7), 33);
  }

  private static void otherKeepingsHoldIt() {
    for (int keep = 0; keep < 3; keep += 2) {
      CacheLevels x = new CacheLevels(2, keep, 1, 1);
      x.bypass(7, 7);
      x.quota(1, 0);
      run("held: by the first alone", x, "0 w 7, 1 w 8", "33");
      due("held: by the first alone, keeping " + keep, caches(x), "[7w] [8w] {}");
      due("held: no write back", x.count(0), 0);
    }
  }
}
