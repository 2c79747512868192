/** Each promise of the document: ordinary inputs, the edges that it names, and wrong inputs. */
public final class CacheLevelsPromises extends Checks {
  private static final int[] ODD_INTS = {
    Integer.MIN_VALUE, Integer.MIN_VALUE + 1, -1000, -17, -16, -5, -4, -3, -2, -1, 0, 1, 2, 3, 4, 5,
    8, 9, 16, 17, 18, 1000, Integer.MAX_VALUE - 1, Integer.MAX_VALUE
  };

  public static void main(String[] args) {
    promise1NewObject();
    promise2Answers();
    promise2OrderOfUse();
    promise2HandingOver();
    promise2Writing();
    promise2LeavingTheFirst();
    promise2LeavingTheSecond();
    promise2HitInSecondThatKeepsNone();
    promise2PassingBy();
    promise2NegativeLines();
    promise2WrongInputs();
    promise3Quota();
    promise3QuotaOfNothing();
    promise4Bypass();
    promise5Flush();
    promise6Holds();
    promise7Version();
    promise8Memory();
    promise9Line();
    promise10Owner();
    promise11Directory();
    promise12Core();
    promise13Count();
    end();
  }

  // ---- promise 1

  private static void promise1NewObject() {
    for (int n : ODD_INTS) {
      CacheLevels x = new CacheLevels(n, n, n, n);
      due("1: cores " + n, (long) x.count(4), 1 + Math.floorMod((long) n - 1, 4L));
      due("1: keep " + n, (long) x.count(5), Math.floorMod((long) n, 3L));
      due("1: first " + n, (long) x.count(6), 1 + Math.floorMod((long) n - 1, 8L));
      due("1: second " + n, (long) x.count(7), 1 + Math.floorMod((long) n - 1, 16L));
      due("1: nothing held", x.count(2) + x.count(3) + x.count(0) + x.count(1), 0);
      due("1: no line", see(x, n).substring(x.count(4)), " 0 owner -1 memory 0 version 0");
      for (int core = 0; core < x.count(4); core++) {
        due("1: tallies", tallies(x, core), "0 0 0 0 0 0 0 0");
        due("1: the quota", x.quota(core, 4), 4);
      }
      due("1: nothing passes by", x.bypass(0, 0), false);
    }
    CacheLevels x = new CacheLevels(1, 0, 1, 1);
    run("1: ways", x, "0 r 1, 0 r 2, 0 r 3, 0 r 4, 0 r 5", "33333");
    due("1: two ways in the first", order(x, 0, 0), "5 4");
    due("1: four ways in the second", order(x, NONE, 0), "5 4 3 2");
    CacheLevels y = new CacheLevels(2, 0, 3, 5);
    due("1: each its own size", "" + y.count(4) + y.count(5) + y.count(6) + y.count(7), "2035");
  }

  // ---- promise 2

  private static void promise2Answers() {
    for (int keep = 0; keep < 3; keep++) {
      CacheLevels x = new CacheLevels(2, keep, 1, 1);
      run("2: answers, keeping " + keep, x, "0 r 1, 0 r 1, 0 w 1, 0 r 2, 0 r 3", "31133");
      due("2: first, keeping " + keep, order(x, 0, 0), "3 2");
      run("2: hit 2, keeping " + keep, x, "0 r 1", "2");
    }
    CacheLevels free = new CacheLevels(2, 0, 1, 1);
    run("2: another core", free, "0 r 1, 1 r 1", "32");
    due("2: free", see(free, 1), "11 1 owner 0 memory 0 version 0");
    CacheLevels none = new CacheLevels(2, 2, 1, 1);
    run("2: another core", none, "0 r 1, 1 r 1", "33");
    due("2: none", see(none, 1), "11 0 owner -1 memory 0 version 0");
  }

  private static void promise2OrderOfUse() {
    CacheLevels x = new CacheLevels(2, 0, 1, 1);
    run("2: hit 1", x, "0 r 1, 0 r 2, 0 r 1", "331");
    due("2: a hit 1 is used last", order(x, 0, 0), "1 2");
    due("2: but not in the second", order(x, NONE, 0), "2 1");
    run("2: the other leaves", x, "0 r 3", "3");
    due("2: the longest ago left", order(x, 0, 0), "3 1");
    run("2: hit 2", x, "1 r 1", "2");
    due("2: a hit 2 is used last", order(x, NONE, 0), "1 3 2");
    run("2: the second fills", x, "1 r 4, 1 r 5", "33");
    due("2: the longest ago left the second", order(x, NONE, 0), "5 4 1 3");
    due("2: free keeping lets the first ones keep", see(x, 1), "10 1 owner 0 memory 0 version 0");
  }

  private static void promise2HandingOver() {
    for (int keep = 0; keep < 2; keep++) {
      CacheLevels x = new CacheLevels(3, keep, 1, 1);
      run("2: hand over", x, "0 w 1, 0 r 2, 1 r 3", "333");
      due("2: before", see(x, 1), "200 1 owner 0 memory 0 version 1");
      run("2: hand over", x, "2 r 1", "2");
      due("2: the second has it", see(x, 1), "101 2 owner 0 memory 0 version 1");
      due("2: handed over, no write back", x.count(1) * 10 + x.count(0), 10);
      run("2: nothing more to hand over", x, "1 r 1", "2");
      due("2: handed over once", x.count(1), 1);
    }
    CacheLevels y = new CacheLevels(2, 0, 1, 1);
    y.quota(0, 0);
    run("2: no line in the second", y, "0 w 1, 1 r 1", "33");
    due("2: it went to memory", see(y, 1), "11 1 owner 1 memory 1 version 1");
    due("2: handed over with a write back", y.count(1) * 10 + y.count(0), 11);
    CacheLevels z = new CacheLevels(2, 2, 1, 1);
    run("2: keeping none", z, "0 w 1, 1 w 1", "33");
    due("2: memory has the first write", see(z, 1), "02 0 owner -1 memory 1 version 2");
    due("2: handed over with a write back", z.count(1) * 10 + z.count(0), 11);
    due("2: and lost by the write", z.core(0, 5), 1);
  }

  private static void promise2Writing() {
    CacheLevels x = new CacheLevels(4, 0, 1, 1);
    run("2: all read, one writes", x, "0 r 1, 1 r 1, 2 r 1, 3 r 1, 2 w 1", "32221");
    due("2: others lost it", see(x, 1), "0020 1 owner 0 memory 0 version 1");
    due("2: lost", "" + x.core(0, 5) + x.core(1, 5) + x.core(2, 5) + x.core(3, 5), "1101");
    run("2: versions", x, "2 w 1, 2 w 1, 0 w 2, 1 w 1", "1132");
    due("2: one more each", x.version(3, 1) * 10 + x.version(3, 2), 41);
    due("2: the second got what was handed over", see(x, 1), "0200 2 owner 0 memory 0 version 4");
    due("2: writes of hits do not move the second", order(x, NONE, 0), "1 2");
  }

  private static void promise2LeavingTheFirst() {
    for (int keep = 0; keep < 2; keep++) {
      CacheLevels x = new CacheLevels(1, keep, 1, 1);
      run("2: written, to the second", x, "0 w 1, 0 r 2, 0 r 3", "333");
      due("2: written there", see(x, 1), "0 2 owner 0 memory 0 version 1");
      due("2: its place stays", order(x, NONE, 0), "3 2 1");
      due("2: no write back", x.count(0), 0);
    }
    CacheLevels y = new CacheLevels(1, 0, 1, 2);
    y.quota(0, 1);
    run("2: written, to memory", y, "0 w 2, 0 r 4, 0 r 6", "333");
    due("2: in memory", see(y, 2), "0 0 owner -1 memory 1 version 1");
    due("2: a write back", y.count(0), 1);
    CacheLevels z = new CacheLevels(2, 2, 1, 1);
    run("2: it comes into the second", z, "1 w 1, 1 r 2, 1 r 3, 1 r 4", "3333");
    due("2: as it is, written", see(z, 1), "00 2 owner 1 memory 0 version 1");
    due("2: as it is, not written", see(z, 2), "00 1 owner 1 memory 0 version 0");
    due("2: as the one used last", order(z, NONE, 0), "2 1");
    CacheLevels shared = new CacheLevels(2, 2, 1, 1);
    run("2: another has it", shared, "0 r 1, 1 r 1, 0 r 2, 0 r 3", "3333");
    due("2: so it does not come", see(shared, 1), "01 0 owner -1 memory 0 version 0");
    run("2: then none has it", shared, "1 r 4, 1 r 5", "33");
    due("2: so it comes", see(shared, 1), "00 1 owner 1 memory 0 version 0");
  }

  private static void promise2LeavingTheSecond() {
    CacheLevels all = new CacheLevels(2, 1, 2, 1);
    run("2: filled", all, "0 r 0, 0 w 1, 0 r 2, 1 r 1", "3332");
    run("2: a newer version", all, "1 w 1, 1 r 3, 1 r 4, 0 r 6", "1333");
    due("2: the line used longest ago", order(all, NONE, 0), "6 4 3 1");
    due("2: both are gone", see(all, 0), "00 0 owner -1 memory 0 version 0");
    run("2: it leaves", all, "0 r 5", "3");
    due("2: the first's version counts", see(all, 1), "00 0 owner -1 memory 2 version 2");
    due("2: one write back", all.count(0), 1);
    due("2: back invalidations", all.core(0, 6) * 10 + all.core(1, 6), 21);
    due("2: not lost by writes then", all.core(0, 5) * 10 + all.core(1, 5), 10);
    CacheLevels free = new CacheLevels(2, 0, 1, 1);
    run("2: stale and written", free, "0 w 1, 1 r 1, 1 w 1", "321");
    run("2: leaves the second", free, "0 r 2, 0 r 3, 0 r 4, 0 r 5", "3333");
    due("2: the second's version went", see(free, 1), "02 0 owner -1 memory 1 version 2");
    due("2: one write back", free.count(0), 1);
    due("2: no back invalidation", free.core(1, 6), 0);
    CacheLevels room = new CacheLevels(1, 1, 1, 1);
    room.quota(0, 1);
    run("2: a quota of one", room, "0 w 1, 0 w 2", "33");
    due("2: its own line left before the new one came", order(room, 0, 0), "2");
    due("2: its version in memory", see(room, 1), "0 0 owner -1 memory 1 version 1");
    due("2: a write back and a back invalidation", room.count(0) * 10 + room.core(0, 6), 11);
  }

  private static void promise2HitInSecondThatKeepsNone() {
    CacheLevels x = new CacheLevels(2, 2, 1, 1);
    run("2: two come into the second", x, "0 w 1, 0 r 2, 0 r 3, 0 r 4", "3333");
    run("2: hit 2", x, "1 r 1, 1 r 2", "22");
    due("2: it is written in the first", see(x, 1), "02 0 owner -1 memory 0 version 1");
    due("2: it is not written in the first", see(x, 2), "01 0 owner -1 memory 0 version 0");
    due("2: no write back for that", x.count(0), 0);
    due("2: no line there", x.count(3), 0);
    run("2: write of a hit 2", x, "1 r 5, 0 w 1", "32");
    due("2: it is written once more", see(x, 1), "20 0 owner -1 memory 0 version 2");
  }

  private static void promise2PassingBy() {
    CacheLevels free = new CacheLevels(2, 0, 1, 1);
    free.bypass(10, 12);
    run("2: passes by", free, "0 w 10, 0 r 10, 1 r 9, 1 r 13, 1 r 12", "31333");
    due("2: free, held by the first", see(free, 10), "20 0 owner -1 memory 0 version 1");
    due("2: both ends pass by, no others", order(free, NONE, 0), "13 9");
    run("2: it leaves the first", free, "0 r 11, 0 r 1", "33");
    due("2: to memory", see(free, 10), "00 0 owner -1 memory 1 version 1");
    CacheLevels all = new CacheLevels(2, 1, 1, 1);
    run("2: there before", all, "0 r 10", "3");
    all.bypass(10, 12);
    run("2: there before, so hit 2", all, "1 r 10, 1 w 10", "21");
    due("2: what is there stays", see(all, 10), "02 1 owner 0 memory 0 version 1");
    run("2: not there, so not held", all, "0 w 11, 0 r 11, 1 w 11, 1 r 12", "3333");
    due("2: all, written to memory at once", see(all, 11), "00 0 owner -1 memory 2 version 2");
    due("2: two write backs", all.count(0), 2);
    due("2: fetches are counted", all.core(0, 3) * 10 + all.core(1, 3), 32);
    due("2: nothing lost by not being held", order(all, 1, 0), "10");
    CacheLevels none = new CacheLevels(1, 2, 1, 1);
    none.bypass(10, 12);
    run("2: passes by", none, "0 w 10, 0 r 11, 0 r 1, 0 r 2, 0 r 3", "33333");
    due("2: none, written, to memory", see(none, 10), "0 0 owner -1 memory 1 version 1");
    due("2: none, not written, gone", see(none, 11), "0 0 owner -1 memory 0 version 0");
    due("2: one write back", none.count(0), 1);
    due("2: only the other came", order(none, NONE, 0), "1");
  }

  private static void promise2NegativeLines() {
    CacheLevels x = new CacheLevels(1, 0, 3, 5);
    int[] lines = {-1, -3, -5, Integer.MIN_VALUE, Integer.MAX_VALUE};
    for (int line : lines) {
      CacheLevels y = new CacheLevels(1, 0, 3, 5);
      due("2: line " + line, y.access(0, line, 0), 3);
      due("2: first set of " + line, y.line(0, Math.floorMod(line, 3), 0), line);
      due("2: second set of " + line, y.line(NONE, Math.floorMod(line, 5), 0), line);
    }
    run("2: one set", x, "0 w -1, 0 w 2, 0 w 5", "333");
    due("2: line -1 is in the set of 2 and 5", order(x, 0, 2), "5 2");
    due("2: but not in the second", order(x, NONE, 4), "-1");
  }

  private static void promise2WrongInputs() {
    CacheLevels x = new CacheLevels(2, 0, 1, 1);
    for (int core : new int[] {-1, 2, 3, Integer.MIN_VALUE, Integer.MAX_VALUE}) {
      dueIndex("2: core " + core, () -> x.access(core, 1, 0));
      dueIndex("2: core first, " + core, () -> x.access(core, 1, 2));
    }
    for (int kind : new int[] {-1, 2, Integer.MIN_VALUE, Integer.MAX_VALUE}) {
      dueArgument("2: kind " + kind, () -> x.access(1, 1, kind));
    }
    due("2: nothing came of it", see(x, 1), "00 0 owner -1 memory 0 version 0");
    due("2: nothing counted", tallies(x, 1), "0 0 0 0 0 0 0 0");
  }

  // ---- promises 3 to 5

  private static void promise3Quota() {
    CacheLevels x = new CacheLevels(2, 0, 1, 1);
    due("3: the one before", x.quota(0, 2), 4);
    due("3: the one before", x.quota(0, 2), 2);
    run("3: two of core 0", x, "0 r 1, 0 r 2, 1 r 3, 0 r 1, 0 r 4", "33313");
    due("3: its own longest ago left", order(x, NONE, 0), "4 3 2");
    run("3: the other is not bound by it", x, "1 r 5, 1 r 6, 1 r 7", "333");
    due("3: of all the longest ago left", order(x, NONE, 0), "7 6 5 4");
    due("3: of core 1", x.core(1, 7) * 10 + x.core(0, 7), 31);
    due("3: lowered", x.quota(1, 1), 4);
    due("3: what is there stays", order(x, NONE, 0), "7 6 5 4");
    run("3: one leaves for one", x, "1 r 8", "3");
    due("3: one of its own left, though not the longest ago of all", order(x, NONE, 0), "8 7 6 4");
    run("3: the other core in a full set", x, "0 r 9", "3");
    due("3: of all the longest ago left", order(x, NONE, 0), "9 8 7 6");
    CacheLevels sets = new CacheLevels(1, 0, 1, 2);
    sets.quota(0, 1);
    run("3: the quota is of each set", sets, "0 r 0, 0 r 1, 0 r 2", "333");
    due("3: even", order(sets, NONE, 0) + ", " + order(sets, NONE, 1), "2, 1");
    dueArgument("3: -1", () -> x.quota(0, -1));
    dueArgument("3: 5", () -> x.quota(0, 5));
    dueArgument("3: least", () -> x.quota(0, Integer.MIN_VALUE));
    dueIndex("3: core 2", () -> x.quota(2, 1));
    dueIndex("3: core NONE, first told", () -> x.quota(NONE, 9));
    due("3: wrong ones change nothing", x.quota(0, 0), 2);
    due("3: 0 and 4 are quotas", x.quota(0, 4), 0);
  }

  private static void promise3QuotaOfNothing() {
    CacheLevels free = new CacheLevels(2, 0, 1, 1);
    free.quota(0, 0);
    run("3: 0, free", free, "0 w 1, 1 r 2, 0 r 2", "332");
    due("3: held by the first alone", see(free, 1), "20 0 owner -1 memory 0 version 1");
    due("3: hits 2 stay", see(free, 2), "11 1 owner 1 memory 0 version 0");
    CacheLevels all = new CacheLevels(2, 1, 1, 1);
    run("3: there before", all, "0 r 1", "3");
    all.quota(0, 0);
    run("3: 0, all", all, "0 w 2, 0 r 2, 1 r 2, 0 w 2, 0 w 1", "33321");
    due("3: came by core 1", see(all, 2), "20 1 owner 1 memory 1 version 2");
    due("3: there before", see(all, 1), "20 1 owner 0 memory 0 version 1");
    due("3: one write back", all.count(0), 1);
    CacheLevels none = new CacheLevels(1, 2, 1, 1);
    none.quota(0, 0);
    run("3: 0, none", none, "0 w 1, 0 r 2, 0 r 3, 0 r 4", "3333");
    due("3: written, so it went to memory", see(none, 1), "0 0 owner -1 memory 1 version 1");
    due("3: not written, so gone", see(none, 2), "0 0 owner -1 memory 0 version 0");
    due("3: one write back, none there", none.count(0) * 10 + none.count(3), 10);
  }

  private static void promise4Bypass() {
    CacheLevels x = new CacheLevels(1, 0, 8, 16);
    due("4: none before", x.bypass(3, 3), false);
    due("4: one before", x.bypass(5, 4), true);
    due("4: from above to: none before", x.bypass(Integer.MAX_VALUE, Integer.MIN_VALUE), false);
    run("4: none pass by", x, "0 r 3, 0 r 4, 0 r 5", "333");
    due("4: all came", x.count(3), 3);
    due("4: none before", x.bypass(-2, 6), false);
    due("4: what is there stays", x.count(3), 3);
    run("4: -2 to 6 pass by, both counted", x, "0 r -3, 0 r -2, 0 r 6, 0 r 7", "3333");
    due("4: no others", "" + x.owner(-3) + x.owner(-2) + x.owner(6) + x.owner(7), "0-1-10");
    due("4: some before", x.bypass(20, 20), true);
    run("4: from now on only these", x, "0 r 20, 0 r 0", "33");
    due("4: no others", "" + x.owner(20) + x.owner(0), "-10");
    due("4: some before", x.bypass(Integer.MIN_VALUE, Integer.MAX_VALUE), true);
    run("4: all pass by", x, "0 r 2147483647, 0 r -2147483648, 0 r 40", "333");
    due("4: none came", x.owner(2147483647) + x.owner(-2147483648) + x.owner(40), -3);
  }

  private static void promise5Flush() {
    CacheLevels x = new CacheLevels(2, 0, 2, 1);
    due("5: empty", x.flush(), 0);
    run("5: written in both", x, "0 w 1, 1 r 1, 1 w 1, 0 w 2, 1 r 2, 0 w 4, 0 r 6", "3213233");
    due("5: 1", see(x, 1), "02 2 owner 0 memory 0 version 2");
    due("5: 2", see(x, 2), "01 2 owner 0 memory 0 version 1");
    due("5: 4", see(x, 4), "20 1 owner 0 memory 0 version 1");
    due("5: three, each once", x.flush(), 3);
    due("5: in all", x.count(0), 3);
    due("5: all are empty", x.count(2) + x.count(3), 0);
    due("5: no more owned", x.core(0, 7), 0);
    due("5: 1", see(x, 1), "00 0 owner -1 memory 2 version 2");
    due("5: 2", see(x, 2), "00 0 owner -1 memory 1 version 1");
    due("5: 4", see(x, 4), "00 0 owner -1 memory 1 version 1");
    due("5: not again", x.flush(), 0);
    due("5: no back invalidation, no third hand over", x.core(0, 6) + x.core(1, 6) + x.count(1), 2);
    run("5: versions go on", x, "0 w 1", "3");
    due("5: 1", see(x, 1), "20 1 owner 0 memory 2 version 3");
    due("5: a read line", order(x, 0, 1) + ", " + order(x, 0, 0), "1, ");
    CacheLevels none = new CacheLevels(1, 2, 1, 1);
    run("5: both levels", none, "0 w 1, 0 w 2, 0 w 3, 0 r 4", "3333");
    due("5: three", none.flush(), 3);
    due("5: all in memory", none.memory(1) + none.memory(2) + none.memory(3), 3);
    CacheLevels all = new CacheLevels(2, 1, 1, 1);
    run("5: held thrice", all, "0 w 1, 1 r 1", "32");
    due("5: one", all.flush(), 1);
    due("5: nothing lost by that", all.core(0, 5) + all.core(0, 6) + all.core(1, 6), 0);
    CacheLevels gone = new CacheLevels(1, 1, 2, 1);
    gone.quota(0, 1);
    run("5: lost by a back invalidation", gone, "0 w 1, 0 w 2", "33");
    due("5: only what is held", gone.flush(), 1);
    due("5: both in memory", gone.memory(1) * 10 + gone.memory(2), 11);
  }

  // ---- promises 6 to 13

  private static void promise6Holds() {
    CacheLevels x = new CacheLevels(2, 0, 1, 1);
    run("6: holds", x, "0 w 1, 1 r 2", "33");
    due("6: written", x.holds(0, 1), 2);
    due("6: held", x.holds(1, 2), 1);
    due("6: not", x.holds(1, 1), 0);
    due("6: the second", x.holds(NONE, 1), 1);
    run("6: handed over", x, "1 r 1", "2");
    due("6: the second, written", x.holds(NONE, 1), 2);
    due("6: the second, not", x.holds(NONE, 3), 0);
    due("6: asking changes no order", order(x, NONE, 0), "1 2");
    for (int core : new int[] {-2, 2, 4, Integer.MIN_VALUE, Integer.MAX_VALUE}) {
      dueIndex("6: core " + core, () -> x.holds(core, 1));
    }
  }

  private static void promise7Version() {
    CacheLevels x = new CacheLevels(3, 0, 1, 1);
    due("7: of a line never used", x.version(0, 9), 0);
    run("7: two writes", x, "0 w 1, 0 w 1", "31");
    due("7: its own", x.version(0, 1), 2);
    due("7: another's written one", x.version(1, 1), 2);
    run("7: handed over", x, "1 r 1, 1 r 2, 1 r 3, 0 r 2, 0 r 3", "23322");
    due("7: of the second", see(x, 1), "000 2 owner 0 memory 0 version 2");
    due("7: for all", x.version(1, 1) + x.version(2, 1), 4);
    x.flush();
    due("7: of memory", x.version(2, 1), 2);
    due("7: asking is no access", x.core(2, 0), 0);
    for (int core : new int[] {NONE, -2, 3, Integer.MIN_VALUE, Integer.MAX_VALUE}) {
      dueIndex("7: core " + core, () -> x.version(core, 1));
    }
  }

  private static void promise8Memory() {
    CacheLevels x = new CacheLevels(1, 0, 1, 1);
    due("8: at first", x.memory(Integer.MIN_VALUE) + x.memory(0) + x.memory(Integer.MAX_VALUE), 0);
    run("8: writes stay in the cache", x, "0 w -7, 0 w -7, 0 w 8", "313");
    due("8: not yet", x.memory(-7) + x.memory(8), 0);
    x.flush();
    due("8: then", x.memory(-7) * 10 + x.memory(8), 21);
    CacheLevels many = new CacheLevels(1, 0, 8, 16);
    for (int line = 0; line < 255; line++) {
      many.access(0, line * 7919, 1);
    }
    many.flush();
    for (int line = 0; line < 255; line++) {
      due("8: of many lines, " + line, many.memory(line * 7919), 1);
    }
    CacheLevels all = new CacheLevels(1, 1, 1, 1);
    all.bypass(Integer.MIN_VALUE, Integer.MAX_VALUE);
    for (int line = 0; line < 510; line++) {
      all.access(0, -line, 1);
    }
    due("8: the last of the most lines, by the last call", all.memory(-509), 1);
  }

  private static void promise9Line() {
    CacheLevels x = new CacheLevels(2, 0, 2, 3);
    run("9: some lines", x, "0 r 0, 0 r 2, 1 r 3, 1 r 6", "3333");
    due("9: core 0, set 0", order(x, 0, 0), "2 0");
    due("9: core 0, set 1", order(x, 0, 1), "");
    due("9: core 1, set 1", order(x, 1, 1), "3");
    due("9: the second, set 0", order(x, NONE, 0), "6 3 0");
    due("9: the second, set 2", order(x, NONE, 2), "2");
    for (int core : new int[] {-2, 2, Integer.MIN_VALUE, Integer.MAX_VALUE}) {
      dueIndex("9: core " + core, () -> x.line(core, 0, 0));
    }
    for (int set : new int[] {-1, 2, 3, Integer.MIN_VALUE, Integer.MAX_VALUE}) {
      dueIndex("9: set " + set, () -> x.line(0, set, 0));
    }
    for (int set : new int[] {-1, 3, Integer.MIN_VALUE, Integer.MAX_VALUE}) {
      dueIndex("9: set of the second " + set, () -> x.line(NONE, set, 0));
    }
    for (int k : new int[] {-1, 2, Integer.MIN_VALUE, Integer.MAX_VALUE}) {
      dueIndex("9: line " + k, () -> x.line(0, 0, k));
    }
    for (int k : new int[] {-1, 3, 4, Integer.MIN_VALUE, Integer.MAX_VALUE}) {
      dueIndex("9: line of the second " + k, () -> x.line(NONE, 0, k));
    }
    dueIndex("9: no line", () -> x.line(0, 1, 0));
  }

  private static void promise10Owner() {
    CacheLevels x = new CacheLevels(3, 0, 1, 1);
    run("10: came by", x, "2 r 1, 0 r 1, 0 w 1, 1 r 2", "3213");
    due("10: the core that it came by", x.owner(1) * 10 + x.owner(2), 21);
    due("10: not there", x.owner(3), NONE);
    CacheLevels none = new CacheLevels(2, 2, 1, 1);
    run("10: fetched by 0, left by 1", none, "0 r 1, 0 r 2, 0 r 3, 1 r 1, 1 r 4, 1 r 5", "333233");
    due("10: the core that it came by last", none.owner(1), 1);
    due("10: still in a first cache", none.owner(2), NONE);
  }

  private static void promise11Directory() {
    CacheLevels x = new CacheLevels(4, 0, 1, 1);
    due("11: none", x.directory(1), 0);
    run("11: three", x, "0 r 1, 2 r 1, 3 r 1", "322");
    due("11: three", x.directory(1), 13);
    run("11: one", x, "1 w 1", "2");
    due("11: one", x.directory(1), 2);
    run("11: left", x, "1 r 2, 1 r 3", "33");
    due("11: only in the second", x.directory(1) * 10 + x.holds(NONE, 1), 2);
  }

  private static void promise12Core() {
    CacheLevels x = new CacheLevels(2, 1, 1, 1);
    run("12: some", x, "0 r 1, 0 w 1, 1 r 1, 1 w 1, 0 r 2, 0 r 3, 0 r 4, 0 w 5", "31213333");
    due("12: core 0", tallies(x, 0), "6 1 0 5 2 1 0 4");
    due("12: core 1", tallies(x, 1), "2 1 1 0 1 0 1 0");
    run("12: more", x, "1 r 2, 1 r 6", "23");
    due("12: core 0", tallies(x, 0), "6 1 0 5 2 1 0 3");
    due("12: core 1", tallies(x, 1), "4 1 2 1 1 0 1 1");
    for (int what : new int[] {-1, 8, 9, Integer.MIN_VALUE, Integer.MAX_VALUE}) {
      dueIndex("12: what " + what, () -> x.core(0, what));
    }
    for (int core : new int[] {NONE, -2, 2, Integer.MIN_VALUE, Integer.MAX_VALUE}) {
      dueIndex("12: core " + core, () -> x.core(core, 0));
      dueIndex("12: owned of core " + core, () -> x.core(core, 7));
    }
  }

  private static void promise13Count() {
    CacheLevels x = new CacheLevels(3, 2, 5, 7);
    run("13: some", x, "0 w 1, 1 w 1, 2 r 1, 2 r 6, 2 r 11", "33333");
    StringBuilder text = new StringBuilder();
    for (int what = -2; what < 10; what++) {
      text.append(x.count(what)).append(" ");
    }
    due("13: all", text.toString().trim(), "-1 -1 2 2 3 0 3 2 5 7 -1 -1");
    run("13: left by the last that has it", x, "1 r 6, 1 r 11", "33");
    due("13: one in the second", x.count(3) * 10 + x.count(2), 14);
    due("13: NONE for another", x.count(Integer.MIN_VALUE) + x.count(Integer.MAX_VALUE), -2);
    due("13: the constant", NONE, -1);
  }
}
