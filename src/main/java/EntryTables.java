import java.util.Arrays;

/**
 * Tables of entries that are matched exactly, by prefixes or by masks, and the actions that they do
 * to fields, a port and arrays of counts.
 *
 * <p>Every row is made once, in the constructors, and used again after clear() and remove(), so that
 * no call of the face makes anything but the exception that it throws.
 */
public final class EntryTables {
  public static final int NONE = -1;

  private static final int MAX_FIELDS = 16;
  private static final int MAX_ACTIONS = 16;
  private static final int MAX_DOINGS = 4;
  private static final int MAX_TABLES = 8;
  private static final int MAX_ENTRIES = 20;
  private static final int ARRAYS = 4;
  private static final int ARRAY_WORDS = 16;
  private static final int DATA = 2;
  private static final int WORD_BITS = 32;

  private static final int EXACT = 0;
  private static final int PREFIX = 1;
  private static final int MASKED = 2;
  private static final int HOW_BITS = 2;
  private static final int HOW_MASK = 3;

  private static final int FIELD_IS_WORD = 0;
  private static final int FIELD_IS_FIELD = 1;
  private static final int FIELD_GROWS = 2;
  private static final int FIELD_IS_DATUM = 3;
  private static final int PORT_IS_WORD = 4;
  private static final int PORT_IS_DATUM = 5;
  private static final int DROP = 6;
  private static final int ARRAY_GROWS = 7;
  private static final int FIELD_IS_ARRAY = 8;

  private final Fields fields = new Fields();
  private final Counts counts = new Counts();
  private final Action[] actionRows = new Action[MAX_ACTIONS];
  private int actionCount;
  private final Table[] tableRows = new Table[MAX_TABLES];
  private int tableCount;
  private final Key latestKey = new Key();
  private int latestPort;
  private boolean latestDrop;

  public EntryTables() {
    for (int i = 0; i < MAX_ACTIONS; i++) {
      actionRows[i] = new Action();
    }
    for (int i = 0; i < MAX_TABLES; i++) {
      tableRows[i] = new Table();
    }
  }

  public void clear() {
    fields.forget();
    counts.forget();
    actionCount = 0;
    tableCount = 0;
    latestKey.hold(0, 0, 0, 0);
    latestPort = 0;
    latestDrop = false;
  }

  public int field(int width) throws IllegalArgumentException, IllegalStateException {
    if (width < 1 || width > WORD_BITS) {
      throw new IllegalArgumentException("a width is 1 to 32 bits");
    }
    if (fields.isFull()) {
      throw new IllegalStateException("there are 16 fields");
    }
    return fields.add(width);
  }

  public void set(int field, int word) throws IndexOutOfBoundsException {
    if (!fields.isThere(field)) {
      throw new IndexOutOfBoundsException("no such field");
    }
    fields.write(field, word);
  }

  public int get(int field) {
    return fields.read(field);
  }

  public int action() throws IllegalStateException {
    if (actionCount >= MAX_ACTIONS) {
      throw new IllegalStateException("there are 16 actions");
    }
    int number = actionCount;
    actionRows[number].forget();
    actionCount++;
    return number;
  }

  public void doing(int action, int kind, int x, int y, int z)
      throws IndexOutOfBoundsException, IllegalArgumentException, IllegalStateException {
    if (kind < FIELD_IS_WORD || kind > FIELD_IS_ARRAY) {
      throw new IllegalArgumentException("no such kind of doing");
    }
    if (!isAction(action) || !areOperands(kind, x, y, z)) {
      throw new IndexOutOfBoundsException("no such action, field, array or datum");
    }
    if (actionRows[action].isFull()) {
      throw new IllegalStateException("the action has four doings");
    }
    actionRows[action].add(kind, x, y, z);
  }

  public int table(int f, int g, int how, int actions, int miss)
      throws IndexOutOfBoundsException, IllegalArgumentException, IllegalStateException {
    if (!areKeyFields(f, g) || !areActions(actions, miss)) {
      throw new IndexOutOfBoundsException("no such fields or actions");
    }
    if (!isHow(how, g)) {
      throw new IllegalArgumentException("no such way to match the keys");
    }
    if (tableCount >= MAX_TABLES) {
      throw new IllegalStateException("there are 8 tables");
    }
    int number = tableCount;
    Table made = tableRows[number];
    made.matchKeys(f, g, how & HOW_MASK, how >> HOW_BITS);
    made.cutKeysTo(fields.onesOf(f), fields.onesOf(g));
    made.allowActions(actions, miss);
    tableCount++;
    return number;
  }

  public void key(int a, int maskA, int b, int maskB) {
    latestKey.hold(a, maskA, b, maskB);
  }

  public boolean insert(int table, int priority, int action, int first, int second)
      throws IndexOutOfBoundsException {
    if (!isTable(table)) {
      throw new IndexOutOfBoundsException("no such table");
    }
    return tableRows[table].takeIn(latestKey, priority, action, first, second);
  }

  public boolean remove(int table) throws IndexOutOfBoundsException {
    if (!isTable(table)) {
      throw new IndexOutOfBoundsException("no such table");
    }
    return tableRows[table].takeOut(latestKey);
  }

  public boolean act(int table) throws IndexOutOfBoundsException {
    if (!isTable(table)) {
      throw new IndexOutOfBoundsException("no such table");
    }
    latestPort = 0;
    latestDrop = false;
    Entry found = tableRows[table].bestMatch(fields);
    if (found == null) {
      doAction(tableRows[table].miss, 0, 0);
      return false;
    }
    doAction(found.action, found.first, found.second);
    return true;
  }

  public int matches(int table) {
    if (!isTable(table)) {
      return NONE;
    }
    Entry found = tableRows[table].bestMatch(fields);
    return found == null ? NONE : found.action;
  }

  public int port() {
    return latestPort;
  }

  public boolean isDropped() {
    return latestDrop;
  }

  public int word(int array, int i) {
    return counts.read(array, i);
  }

  public int entries(int table) {
    return isTable(table) ? tableRows[table].count : NONE;
  }

  private boolean isAction(int action) {
    return action >= 0 && action < actionCount;
  }

  private boolean isTable(int table) {
    return table >= 0 && table < tableCount;
  }

  private static boolean isArray(int array) {
    return array >= 0 && array < ARRAYS;
  }

  private static boolean isDatum(int datum) {
    return datum >= 0 && datum < DATA;
  }

  /** Whether what a kind of doing uses is there; what it does not use may be anything. */
  private boolean areOperands(int kind, int x, int y, int z) {
    switch (kind) {
      case FIELD_IS_WORD:
        return fields.isThere(x);
      case FIELD_IS_FIELD:
      case FIELD_GROWS:
        return fields.isThere(x) && fields.isThere(y);
      case FIELD_IS_DATUM:
        return fields.isThere(x) && isDatum(y);
      case PORT_IS_DATUM:
        return isDatum(y);
      case ARRAY_GROWS:
        return isArray(x) && fields.isThere(y);
      case FIELD_IS_ARRAY:
        return fields.isThere(x) && fields.isThere(y) && isArray(z);
      default:
        return true;
    }
  }

  private boolean areKeyFields(int f, int g) {
    return fields.isThere(f) && (g == NONE || (fields.isThere(g) && f != g));
  }

  private boolean areActions(int actions, int miss) {
    int there = (1 << actionCount) - 1;
    return (actions & ~there) == 0 && isAction(miss) && (actions >> miss & 1) != 0;
  }

  private static boolean isHow(int how, int g) {
    int ofF = how & HOW_MASK;
    int ofG = how >> HOW_BITS;
    if (ofF > MASKED || ofG < EXACT || ofG > MASKED) {
      return false;
    }
    if (g == NONE) {
      return ofG == EXACT;
    }
    return ofF != PREFIX || ofG != PREFIX;
  }

  private void doAction(int action, int first, int second) {
    if (!isAction(action)) {
      return;
    }
    Action done = actionRows[action];
    for (int i = 0; i < done.count && i < MAX_DOINGS; i++) {
      doOne(done.doings[i], first, second);
    }
  }

  private void doOne(Doing d, int first, int second) {
    switch (d.kind) {
      case FIELD_IS_WORD:
        fields.write(d.x, d.y);
        break;
      case FIELD_IS_FIELD:
        fields.write(d.x, fields.read(d.y));
        break;
      case FIELD_GROWS:
        fields.write(d.x, fields.read(d.x) + fields.read(d.y) + d.z);
        break;
      case FIELD_IS_DATUM:
        fields.write(d.x, d.y == 0 ? first : second);
        break;
      case PORT_IS_WORD:
        latestPort = d.y;
        break;
      case PORT_IS_DATUM:
        latestPort = d.y == 0 ? first : second;
        break;
      case DROP:
        latestDrop = true;
        break;
      case ARRAY_GROWS:
        counts.grow(d.x, wordNumber(d.y), d.z);
        break;
      case FIELD_IS_ARRAY:
        fields.write(d.x, counts.read(d.z, wordNumber(d.y)));
        break;
      default:
        break;
    }
  }

  /** Which word of an array a field names: floorMod, as a field of 32 bits may look negative. */
  private int wordNumber(int field) {
    return Math.floorMod(fields.read(field), ARRAY_WORDS);
  }

  /** The fields that are there; one that is not reads 0 and keeps nothing. */
  private static final class Fields {
    private final int[] ones = new int[MAX_FIELDS];
    private final int[] words = new int[MAX_FIELDS];
    private int count;

    void forget() {
      count = 0;
    }

    boolean isFull() {
      return count >= MAX_FIELDS;
    }

    boolean isThere(int field) {
      return field >= 0 && field < count;
    }

    int add(int width) {
      if (isFull()) {
        return NONE;
      }
      int number = count;
      ones[number] = -1 >>> (WORD_BITS - width);
      words[number] = 0;
      count++;
      return number;
    }

    /** All bits of a field; none for no field, so that a key that is not there matches all. */
    int onesOf(int field) {
      return isThere(field) ? ones[field] : 0;
    }

    int read(int field) {
      return isThere(field) ? words[field] : 0;
    }

    void write(int field, int word) {
      if (isThere(field)) {
        words[field] = word & ones[field];
      }
    }
  }

  /** The arrays of counts, one behind the other in one row. */
  private static final class Counts {
    private final int[] words = new int[ARRAYS * ARRAY_WORDS];

    void forget() {
      Arrays.fill(words, 0);
    }

    private static boolean isWord(int array, int i) {
      return isArray(array) && i >= 0 && i < ARRAY_WORDS;
    }

    int read(int array, int i) {
      return isWord(array, i) ? words[array * ARRAY_WORDS + i] : 0;
    }

    void grow(int array, int i, int by) {
      if (isWord(array, i)) {
        words[array * ARRAY_WORDS + i] += by;
      }
    }
  }

  private static final class Doing {
    private int kind;
    private int x;
    private int y;
    private int z;
  }

  private static final class Action {
    private final Doing[] doings = new Doing[MAX_DOINGS];
    private int count;

    Action() {
      for (int i = 0; i < MAX_DOINGS; i++) {
        doings[i] = new Doing();
      }
    }

    void forget() {
      count = 0;
    }

    boolean isFull() {
      return count >= MAX_DOINGS;
    }

    void add(int kind, int x, int y, int z) {
      if (isFull()) {
        return;
      }
      Doing added = doings[count];
      added.kind = kind;
      added.x = x;
      added.y = y;
      added.z = z;
      count++;
    }
  }

  /** Values and masks for both keys of a table. */
  private static final class Key {
    private int a;
    private int maskA;
    private int b;
    private int maskB;

    void hold(int newA, int newMaskA, int newB, int newMaskB) {
      a = newA;
      maskA = newMaskA;
      b = newB;
      maskB = newMaskB;
    }

    boolean isSameAs(Key other) {
      return a == other.a && maskA == other.maskA && b == other.b && maskB == other.maskB;
    }

    boolean fits(int wordA, int wordB) {
      return (wordA & maskA) == a && (wordB & maskB) == b;
    }
  }

  private static final class Entry {
    private final Key key = new Key();
    private int priority;
    private int action;
    private int first;
    private int second;
  }

  /** A table; its entries stand in the order in which they came. */
  private static final class Table {
    private final Entry[] rows = new Entry[MAX_ENTRIES];
    private int count;
    private int f;
    private int g;
    private int howF;
    private int howG;
    private int onesF;
    private int onesG;
    private int allowed;
    private int miss;
    private final Key sought = new Key();

    Table() {
      for (int i = 0; i < MAX_ENTRIES; i++) {
        rows[i] = new Entry();
      }
    }

    void matchKeys(int newF, int newG, int newHowF, int newHowG) {
      f = newF;
      g = newG;
      howF = newHowF;
      howG = newHowG;
      count = 0;
    }

    void cutKeysTo(int newOnesF, int newOnesG) {
      onesF = newOnesF;
      onesG = newOnesG;
    }

    void allowActions(int actions, int newMiss) {
      allowed = actions;
      miss = newMiss;
    }

    boolean takeIn(Key key, int priority, int action, int first, int second) {
      seek(key);
      if (!areMasks() || !isAllowed(action) || rowOfSought() != NONE || count >= MAX_ENTRIES) {
        return false;
      }
      Entry taken = rows[count];
      taken.key.hold(sought.a, sought.maskA, sought.b, sought.maskB);
      taken.priority = priority;
      taken.action = action;
      taken.first = first;
      taken.second = second;
      count++;
      return true;
    }

    boolean takeOut(Key key) {
      seek(key);
      int row = rowOfSought();
      if (row < 0 || row >= count) {
        return false;
      }
      // The others move up in their order; the object that goes waits behind them for its next use.
      Entry gone = rows[row];
      for (int i = row + 1; i < count; i++) {
        rows[i - 1] = rows[i];
      }
      count--;
      rows[count] = gone;
      return true;
    }

    /** The entry that is done with these fields, null without one. */
    Entry bestMatch(Fields fields) {
      int wordF = fields.read(f);
      int wordG = fields.read(g);
      Entry best = null;
      for (int i = 0; i < count; i++) {
        Entry next = rows[i];
        if (next.key.fits(wordF, wordG) && (best == null || isBetter(next, best))) {
          best = next;
        }
      }
      return best;
    }

    /** Never of two that are alike, so that the one that came first stays. */
    private boolean isBetter(Entry later, Entry earlier) {
      int laterOnes = prefixOnes(later.key);
      int earlierOnes = prefixOnes(earlier.key);
      if (laterOnes != earlierOnes) {
        return laterOnes > earlierOnes;
      }
      return later.priority > earlier.priority;
    }

    private int prefixOnes(Key key) {
      if (howF == PREFIX) {
        return Integer.bitCount(key.maskA);
      }
      return howG == PREFIX ? Integer.bitCount(key.maskB) : 0;
    }

    /** A key is cut before it is looked at, as two that differ only outside the fields are one. */
    private void seek(Key key) {
      int maskA = key.maskA & onesF;
      int maskB = key.maskB & onesG;
      sought.hold(key.a & maskA, maskA, key.b & maskB, maskB);
    }

    private int rowOfSought() {
      for (int i = 0; i < count; i++) {
        if (rows[i].key.isSameAs(sought)) {
          return i;
        }
      }
      return NONE;
    }

    private boolean areMasks() {
      return isMask(howF, sought.maskA, onesF) && isMask(howG, sought.maskB, onesG);
    }

    private static boolean isMask(int how, int mask, int ones) {
      int rest = mask ^ ones;
      if (how == EXACT) {
        return rest == 0;
      }
      // Ones from the top leave a rest of the form 0..01..1, which shares no bit with its successor.
      return how != PREFIX || (rest & (rest + 1)) == 0;
    }

    private boolean isAllowed(int action) {
      return action >= 0 && action < MAX_ACTIONS && (allowed >> action & 1) != 0;
    }
  }
}
