/**
 * Two levels of caches: each core has a first cache of its own, all cores share the second one.
 *
 * <p>The numbered promises of the document say what each call answers.
 */
public final class CacheLevels {
  /** Nothing there; as a core: the second cache. */
  public static final int NONE = -1;

  private static final int FIRST_WAYS = 2;
  private static final int SECOND_WAYS = 4;

  // The second cache is the only group of its bank.
  private static final int SHARED = 0;

  private static final int KEEP_ALL = 1;
  private static final int KEEP_NONE = 2;

  private static final int READ = 0;
  private static final int WRITE = 1;

  private static final int HIT_FIRST = 1;
  private static final int HIT_SECOND = 2;
  private static final int FETCHED = 3;

  private static final int ACCESSES = 0;
  private static final int FIRST_HITS = 1;
  private static final int SECOND_HITS = 2;
  private static final int FETCHES = 3;
  private static final int WRITES = 4;
  private static final int LOST_BY_WRITES = 5;
  private static final int LOST_BY_LEAVING = 6;
  private static final int OWNED = 7;
  // OWNED is counted from the second cache itself, so only what stands before it has a tally.
  private static final int TALLIES = OWNED;

  private final int cores;
  private final int keeping;
  private final Bank first;
  private final Bank second;
  private final Versions versions;
  private final int[] quotas;
  private final int[] tallies;
  private int passFrom;
  private int passTo;
  private int handedOver;

  public CacheLevels(int cores, int keep, int first, int second) {
    // Taking 1 away may wrap around, which changes no rest here: 4, 8 and 16 divide 2 to the 32nd.
    this.cores = 1 + Math.floorMod(cores - 1, 4);
    this.keeping = Math.floorMod(keep, 3);
    this.first = new Bank(this.cores, 1 + Math.floorMod(first - 1, 8), FIRST_WAYS);
    this.second = new Bank(1, 1 + Math.floorMod(second - 1, 16), SECOND_WAYS);
    this.versions = new Versions();
    this.quotas = new int[this.cores];
    for (int i = 0; i < this.quotas.length; i++) {
      this.quotas[i] = SECOND_WAYS;
    }
    this.tallies = new int[this.cores * TALLIES];
    this.passFrom = 0;
    this.passTo = -1;
    this.handedOver = 0;
  }

  public int access(int core, int line, int kind)
      throws IndexOutOfBoundsException, IllegalArgumentException {
    requireCore(core);
    if (kind != READ && kind != WRITE) {
      throw new IllegalArgumentException("a kind is 0 (read) or 1 (write)");
    }
    tally(core, ACCESSES);
    int answer = HIT_FIRST;
    int slot = first.find(core, line);
    if (slot != NONE) {
      first.useLast(slot);
      tally(core, FIRST_HITS);
    } else {
      handOver(line);
      answer = bring(core, line);
    }
    if (kind == WRITE) {
      tally(core, WRITES);
      write(core, line);
    }
    return answer;
  }

  public int quota(int core, int ways) throws IndexOutOfBoundsException, IllegalArgumentException {
    requireCore(core);
    if (ways < 0 || ways > SECOND_WAYS) {
      throw new IllegalArgumentException("a quota is 0 to 4");
    }
    int before = quotas[core];
    quotas[core] = ways;
    return before;
  }

  public boolean bypass(int from, int to) {
    boolean before = passFrom <= passTo;
    passFrom = from;
    passTo = to;
    return before;
  }

  public int flush() {
    int before = versions.writeBacks;
    for (int slot = 0; slot < second.slots(); slot++) {
      if (second.isWritten(slot) && writtenInFirst(second.lineAt(slot)) == NONE) {
        versions.writeBack(second.lineAt(slot), second.versionAt(slot));
      }
    }
    for (int slot = 0; slot < first.slots(); slot++) {
      if (first.isWritten(slot)) {
        versions.writeBack(first.lineAt(slot), first.versionAt(slot));
      }
    }
    first.clear();
    second.clear();
    return versions.writeBacks - before;
  }

  public int holds(int core, int line) throws IndexOutOfBoundsException {
    requireCoreOrNone(core);
    Bank bank = bankOf(core);
    int slot = bank.find(groupOf(core), line);
    if (slot == NONE) {
      return 0;
    }
    return bank.isWritten(slot) ? 2 : 1;
  }

  public int version(int core, int line) throws IndexOutOfBoundsException {
    requireCore(core);
    int own = first.find(core, line);
    if (own != NONE) {
      return first.versionAt(own);
    }
    int other = writtenInFirst(line);
    if (other != NONE) {
      return first.versionAt(other);
    }
    int shared = second.find(SHARED, line);
    return shared != NONE ? second.versionAt(shared) : versions.inMemory(line);
  }

  public int memory(int line) {
    return versions.inMemory(line);
  }

  public int line(int core, int set, int k) throws IndexOutOfBoundsException {
    requireCoreOrNone(core);
    Bank bank = bankOf(core);
    if (set < 0 || set >= bank.sets) {
      throw new IndexOutOfBoundsException("there is no such set");
    }
    int place = groupOf(core) * bank.sets + set;
    if (k < 0 || k >= bank.size(place)) {
      throw new IndexOutOfBoundsException("there is no such line in the set");
    }
    return bank.lineAt(place * bank.ways + k);
  }

  public int owner(int line) {
    int slot = second.find(SHARED, line);
    return slot == NONE ? NONE : second.ownerAt(slot);
  }

  public int directory(int line) {
    int bits = 0;
    for (int core = 0; core < cores; core++) {
      if (first.find(core, line) != NONE) {
        bits |= 1 << core;
      }
    }
    return bits;
  }

  public int core(int core, int what) throws IndexOutOfBoundsException {
    requireCore(core);
    if (what < 0 || what > OWNED) {
      throw new IndexOutOfBoundsException("what is 0 to 7");
    }
    return what == OWNED ? second.ownedBy(core) : tallies[core * TALLIES + what];
  }

  public int count(int what) {
    switch (what) {
      case 0:
        return versions.writeBacks;
      case 1:
        return handedOver;
      case 2:
        return first.total();
      case 3:
        return second.total();
      case 4:
        return cores;
      case 5:
        return keeping;
      case 6:
        return first.sets;
      case 7:
        return second.sets;
      default:
        return NONE;
    }
  }

  private void requireCore(int core) {
    if (core < 0 || core >= cores) {
      throw new IndexOutOfBoundsException("there is no such core");
    }
  }

  private void requireCoreOrNone(int core) {
    if (core != NONE) {
      requireCore(core);
    }
  }

  private Bank bankOf(int core) {
    return core == NONE ? second : first;
  }

  private static int groupOf(int core) {
    return core == NONE ? SHARED : core;
  }

  private void tally(int core, int what) {
    int at = core * TALLIES + what;
    if (at >= 0 && at < tallies.length) {
      tallies[at]++;
    }
  }

  private boolean passesBy(int line) {
    return line >= passFrom && line <= passTo;
  }

  /** The slot of the one first cache that has the line written, or NONE. */
  private int writtenInFirst(int line) {
    for (int core = 0; core < cores; core++) {
      int slot = first.find(core, line);
      if (first.isWritten(slot)) {
        return slot;
      }
    }
    return NONE;
  }

  private void handOver(int line) {
    int slot = writtenInFirst(line);
    if (slot != NONE) {
      handedOver++;
      first.clean(slot);
      writeDown(line, first.versionAt(slot));
    }
  }

  /** What a first cache wrote goes to the second cache's line, whose place in the order stays. */
  private void writeDown(int line, int version) {
    int slot = second.find(SHARED, line);
    if (slot == NONE) {
      versions.writeBack(line, version);
    } else {
      second.rewrite(slot, version);
    }
  }

  /** Steps 3 and 4 of an access; the access's answer. */
  private int bring(int core, int line) {
    int slot = second.find(SHARED, line);
    int version = slot != NONE ? second.versionAt(slot) : versions.inMemory(line);
    boolean written = false;
    if (slot == NONE) {
      if (keeping != KEEP_NONE && !passesBy(line)) {
        comeIntoSecond(core, line, version, false);
      }
    } else if (keeping == KEEP_NONE) {
      written = second.isWritten(slot);
      second.drop(slot);
    } else {
      second.useLast(slot);
    }
    // With keeping 1 a line that could not come into the second cache is not held by the first.
    if (keeping != KEEP_ALL || second.find(SHARED, line) != NONE) {
      makeRoomInFirst(core, line);
      first.put(first.placeOf(core, line), line, version, written, core);
    }
    tally(core, slot != NONE ? SECOND_HITS : FETCHES);
    return slot != NONE ? HIT_SECOND : FETCHED;
  }

  private void write(int core, int line) {
    for (int other = 0; other < cores; other++) {
      int lost = other == core ? NONE : first.find(other, line);
      if (lost != NONE) {
        first.drop(lost);
        tally(other, LOST_BY_WRITES);
      }
    }
    if (keeping == KEEP_NONE) {
      second.drop(second.find(SHARED, line));
    }
    int version = versions.makeNext(line);
    int slot = first.find(core, line);
    if (slot == NONE) {
      // Keeping 1 let no cache hold it, so that memory alone can have the new version.
      versions.writeBack(line, version);
    } else {
      first.rewrite(slot, version);
    }
  }

  private void makeRoomInFirst(int core, int coming) {
    int place = first.placeOf(core, coming);
    if (!first.isFull(place)) {
      return;
    }
    int slot = first.oldest(place);
    int line = first.lineAt(slot);
    int version = first.versionAt(slot);
    boolean written = first.isWritten(slot);
    first.drop(slot);
    if (keeping == KEEP_NONE && !passesBy(line) && directory(line) == 0) {
      comeIntoSecond(core, line, version, written);
    } else if (written) {
      writeDown(line, version);
    }
  }

  private void comeIntoSecond(int core, int line, int version, boolean written) {
    int most = core >= 0 && core < quotas.length ? quotas[core] : 0;
    if (most == 0) {
      if (written) {
        versions.writeBack(line, version);
      }
      return;
    }
    int place = second.placeOf(SHARED, line);
    if (second.ownedAt(place, core) >= most) {
      leaveSecond(second.oldestOwned(place, core));
    } else if (second.isFull(place)) {
      leaveSecond(second.oldest(place));
    }
    second.put(place, line, version, written, core);
  }

  private void leaveSecond(int slot) {
    int line = second.lineAt(slot);
    int version = second.versionAt(slot);
    boolean written = second.isWritten(slot);
    second.drop(slot);
    for (int core = 0; keeping == KEEP_ALL && core < cores; core++) {
      int lost = first.find(core, line);
      if (first.isWritten(lost)) {
        version = first.versionAt(lost);
        written = true;
      }
      if (lost != NONE) {
        first.drop(lost);
        tally(core, LOST_BY_LEAVING);
      }
    }
    if (written) {
      versions.writeBack(line, version);
    }
  }

  /**
   * The sets of one cache, or of several alike (its groups), one behind the other. Set number
   * "place" of them all has its lines in the slots from place * ways on, the one used last first:
   * so a slot tells a line's place in the order, too. A slot that holds nothing is never written.
   */
  private static final class Bank {
    final int sets;
    final int ways;
    private final int[] sizes;
    private final int[] lines;
    private final int[] versions;
    private final int[] owners;
    private final boolean[] written;

    Bank(int groups, int sets, int ways) {
      // At least one of each, so that dividing by them and making the rows is safe.
      this.sets = Math.max(1, sets);
      this.ways = Math.max(1, ways);
      int places = Math.max(1, groups) * this.sets;
      this.sizes = new int[places];
      this.lines = new int[places * this.ways];
      this.versions = new int[places * this.ways];
      this.owners = new int[places * this.ways];
      this.written = new boolean[places * this.ways];
    }

    int slots() {
      return lines.length;
    }

    int placeOf(int group, int line) {
      return group * sets + Math.floorMod(line, sets);
    }

    int size(int place) {
      return place >= 0 && place < sizes.length ? sizes[place] : 0;
    }

    boolean isFull(int place) {
      return size(place) >= ways;
    }

    int total() {
      int sum = 0;
      for (int place = 0; place < sizes.length; place++) {
        sum += sizes[place];
      }
      return sum;
    }

    private boolean isSlot(int slot) {
      return slot >= 0 && slot < lines.length;
    }

    int lineAt(int slot) {
      return isSlot(slot) ? lines[slot] : 0;
    }

    int versionAt(int slot) {
      return isSlot(slot) ? versions[slot] : 0;
    }

    int ownerAt(int slot) {
      return isSlot(slot) ? owners[slot] : NONE;
    }

    boolean isWritten(int slot) {
      return isSlot(slot) && written[slot];
    }

    void clean(int slot) {
      if (isSlot(slot)) {
        written[slot] = false;
      }
    }

    /** A newer version than memory has; the line's place in the order stays. */
    void rewrite(int slot, int version) {
      if (isSlot(slot)) {
        versions[slot] = version;
        written[slot] = true;
      }
    }

    /** The slot of a line in its set of the group, or NONE. */
    int find(int group, int line) {
      int place = placeOf(group, line);
      for (int k = 0; k < size(place); k++) {
        if (lineAt(place * ways + k) == line) {
          return place * ways + k;
        }
      }
      return NONE;
    }

    /** The slot of the line used longest ago, or NONE in an empty set. */
    int oldest(int place) {
      int size = size(place);
      return size > 0 ? place * ways + size - 1 : NONE;
    }

    /** The slot of that of the owner's lines which was used longest ago, or NONE. */
    int oldestOwned(int place, int owner) {
      for (int k = size(place) - 1; k >= 0; k--) {
        if (ownerAt(place * ways + k) == owner) {
          return place * ways + k;
        }
      }
      return NONE;
    }

    int ownedAt(int place, int owner) {
      int sum = 0;
      for (int k = 0; k < size(place); k++) {
        if (ownerAt(place * ways + k) == owner) {
          sum++;
        }
      }
      return sum;
    }

    int ownedBy(int owner) {
      int sum = 0;
      for (int place = 0; place < sizes.length; place++) {
        sum += ownedAt(place, owner);
      }
      return sum;
    }

    /** Puts a line in as the one used last; a full set takes none. */
    void put(int place, int line, int version, boolean isWritten, int owner) {
      if (place < 0 || place >= sizes.length || isFull(place)) {
        return;
      }
      int slot = place * ways + sizes[place];
      if (isSlot(slot)) {
        lines[slot] = line;
        versions[slot] = version;
        written[slot] = isWritten;
        owners[slot] = owner;
        sizes[place]++;
        useLast(slot);
      }
    }

    void useLast(int slot) {
      int rank = slot % ways;
      for (int k = 0; k < rank; k++) {
        swap(slot - k, slot - k - 1);
      }
    }

    /** Takes out what a slot holds; of no slot (NONE) nothing. */
    void drop(int slot) {
      int place = isSlot(slot) ? slot / ways : NONE;
      int last = oldest(place);
      if (place < 0 || place >= sizes.length || slot > last) {
        return;
      }
      for (int at = slot; at < last; at++) {
        swap(at, at + 1);
      }
      clean(last);
      sizes[place]--;
    }

    private void swap(int a, int b) {
      if (!isSlot(a) || !isSlot(b)) {
        return;
      }
      int line = lines[a];
      lines[a] = lines[b];
      lines[b] = line;
      int version = versions[a];
      versions[a] = versions[b];
      versions[b] = version;
      int owner = owners[a];
      owners[a] = owners[b];
      owners[b] = owner;
      boolean wasWritten = written[a];
      written[a] = written[b];
      written[b] = wasWritten;
    }

    void clear() {
      for (int place = 0; place < sizes.length; place++) {
        sizes[place] = 0;
      }
      for (int slot = 0; slot < written.length; slot++) {
        written[slot] = false;
      }
    }
  }

  /**
   * The newest version of each line that was ever written, and the one that memory has. All other
   * lines are of version 0.
   */
  private static final class Versions {
    // An object is used for at most 512 calls, and a call writes one line at most.
    private static final int MOST_LINES = 512;

    int writeBacks;
    private int size;
    private final int[] lines;
    private final int[] newest;
    private final int[] stored;

    Versions() {
      this.lines = new int[MOST_LINES];
      this.newest = new int[MOST_LINES];
      this.stored = new int[MOST_LINES];
    }

    int inMemory(int line) {
      int at = indexOf(line);
      return at >= 0 && at < stored.length ? stored[at] : 0;
    }

    void writeBack(int line, int version) {
      writeBacks++;
      int at = indexOf(line);
      if (at >= 0 && at < stored.length) {
        stored[at] = version;
      }
    }

    int makeNext(int line) {
      int at = indexOf(line);
      if (at == NONE && size < lines.length) {
        at = size;
        lines[at] = line;
        size++;
      }
      if (at < 0 || at >= newest.length) {
        return 0;
      }
      newest[at]++;
      return newest[at];
    }

    private int indexOf(int line) {
      for (int at = 0; at < size && at < lines.length; at++) {
        if (lines[at] == line) {
          return at;
        }
      }
      return NONE;
    }
  }
}
