/**
 * What the tests share: they say which answer is due, print each that is another, and end with exit
 * code 1 if there was one.
 */
class Due {
  static final int NONE = EntryTables.NONE;
  static final int ALL = -1;
  static final int MIN = Integer.MIN_VALUE;
  static final int MAX = Integer.MAX_VALUE;

  /** Numbers of nothing; among them those that a shift or a remainder would take for others. */
  static final int[] NO_NUMBER = {MIN, -33, -32, -16, -2, -1, 16, 20, 31, 32, 33, 64, MAX};

  private static int tests = 0;
  private static int wrong = 0;
  private static String test = "";

  interface Call {
    void run();
  }

  /** A test of its own: what it throws fails it alone, and the next one is run. */
  static void test(String name, Call body) {
    tests++;
    test = name + ": ";
    try {
      body.run();
    } catch (RuntimeException e) {
      wrong++;
      System.out.println(test + "threw " + e);
    }
    test = "";
  }

  static void due(String what, long got, long want) {
    if (got != want) {
      wrong++;
      System.out.println(test + what + " answered " + got + ", due is " + want);
    }
  }

  static void due(String what, boolean got, boolean want) {
    due(what, got ? 1L : 0L, want ? 1L : 0L);
  }

  private static void dueThrow(String what, Class<?> want, Call call) {
    Class<?> got = null;
    try {
      call.run();
    } catch (RuntimeException e) {
      got = e.getClass();
    }
    if (got != want) {
      wrong++;
      System.out.println(test + what + " threw " + got + ", due is " + want);
    }
  }

  static void dueIndex(String what, Call call) {
    dueThrow(what, IndexOutOfBoundsException.class, call);
  }

  static void dueArgument(String what, Call call) {
    dueThrow(what, IllegalArgumentException.class, call);
  }

  static void dueState(String what, Call call) {
    dueThrow(what, IllegalStateException.class, call);
  }

  static void end() {
    System.out.println(wrong == 0 ? "all answers are as due" : wrong + " answers are not as due");
    if (tests != 0) {
      System.out.println(tests + " tests");
    }
    if (wrong != 0) {
      System.exit(1);
    }
  }

  /** Fields 0 .. 3 of 32, 8, 4 and 1 bits, and actions 0 .. 3 without doings. */
  static EntryTables ready() {
    EntryTables x = new EntryTables();
    x.field(32);
    x.field(8);
    x.field(4);
    x.field(1);
    for (int i = 0; i < 4; i++) {
      x.action();
    }
    return x;
  }

  static boolean insert(EntryTables x, int table, int value, int mask, int priority, int action) {
    x.key(value, mask, 0, 0);
    return x.insert(table, priority, action, 0, 0);
  }

  static boolean remove(EntryTables x, int table, int value, int mask) {
    x.key(value, mask, 0, 0);
    return x.remove(table);
  }

  static int[] d(int kind, int x, int y, int z) {
    return new int[] {kind, x, y, z};
  }

  static void give(EntryTables x, int action, int[]... doings) {
    for (int[] doing : doings) {
      x.doing(action, doing[0], doing[1], doing[2], doing[3]);
    }
  }
}
