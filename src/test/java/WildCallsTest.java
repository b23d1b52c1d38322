import java.util.ArrayList;
import java.util.List;
import java.util.Random;

/**
 * Many runs of calls with mixed arguments, against a second, slow reading of the document that
 * keeps words as long numbers and keys as texts of bits ('0', '1', '*' where the mask has none).
 */
public final class WildCallsTest {
  private static final int RUNS = 3000;
  private static final int CALLS = 512;

  private static final class Refusal extends RuntimeException {
    private static final long serialVersionUID = 1L;

    Refusal(String name) {
      super(name, null, false, false);
    }
  }

  private static final class Line {
    String key;
    int ones;
    int priority;
    int action;
    int[] data;
  }

  private static final class Sheet {
    int f;
    int g;
    int howF;
    int howG;
    int actions;
    int miss;
    List<Line> lines = new ArrayList<>();
  }

  private static final class Model {
    List<Integer> widths = new ArrayList<>();
    List<Long> words = new ArrayList<>();
    List<List<int[]>> actions = new ArrayList<>();
    List<Sheet> sheets = new ArrayList<>();
    int[][] arrays = new int[4][16];
    int[] key = new int[4];
    int port = 0;
    boolean dropped = false;

    static void index(boolean good) {
      if (!good) {
        throw new Refusal("IndexOutOfBoundsException");
      }
    }

    static void argument(boolean good) {
      if (!good) {
        throw new Refusal("IllegalArgumentException");
      }
    }

    static void state(boolean good) {
      if (!good) {
        throw new Refusal("IllegalStateException");
      }
    }

    boolean isField(int i) {
      return 0 <= i && i < words.size();
    }

    int field(int width) {
      argument(1 <= width && width <= 32);
      state(words.size() < 16);
      widths.add(width);
      words.add(0L);
      return words.size() - 1;
    }

    void put(int field, long word) {
      words.set(field, Math.floorMod(word, 1L << widths.get(field)));
    }

    void set(int field, int word) {
      index(isField(field));
      put(field, word);
    }

    int get(int field) {
      return isField(field) ? words.get(field).intValue() : 0;
    }

    int action() {
      state(actions.size() < 16);
      actions.add(new ArrayList<>());
      return actions.size() - 1;
    }

    void doing(int action, int kind, int x, int y, int z) {
      argument(0 <= kind && kind <= 8);
      index(0 <= action && action < actions.size());
      index(!List.of(0, 1, 2, 3, 8).contains(kind) || isField(x));
      index(!List.of(1, 2, 7, 8).contains(kind) || isField(y));
      index(!List.of(3, 5).contains(kind) || y == 0 || y == 1);
      index(kind != 7 || (0 <= x && x <= 3));
      index(kind != 8 || (0 <= z && z <= 3));
      state(actions.get(action).size() < 4);
      actions.get(action).add(new int[] {kind, x, y, z});
    }

    int table(int f, int g, int how, int bits, int miss) {
      index(isField(f));
      index(g == -1 || isField(g));
      index(f != g);
      for (int i = 0; i < 32; i++) {
        index((bits & (1 << i)) == 0 || i < actions.size());
      }
      index(0 <= miss && miss < 32 && (bits & (1 << miss)) != 0);
      boolean found = false;
      Sheet sheet = new Sheet();
      for (int howF = 0; howF < 3; howF++) {
        for (int howG = 0; howG < 3; howG++) {
          if (how == howF + 4 * howG && (g != -1 || howG == 0) && (howF != 1 || howG != 1)) {
            found = true;
            sheet.howF = howF;
            sheet.howG = howG;
          }
        }
      }
      argument(found);
      state(sheets.size() < 8);
      sheet.f = f;
      sheet.g = g;
      sheet.actions = bits;
      sheet.miss = miss;
      sheets.add(sheet);
      return sheets.size() - 1;
    }

    String bits(int field, int value, int mask) {
      StringBuilder text = new StringBuilder();
      for (int i = widths.get(field) - 1; i >= 0; i--) {
        boolean one = (value & (1 << i)) != 0;
        text.append((mask & (1 << i)) == 0 ? '*' : one ? '1' : '0');
      }
      return text.toString();
    }

    String keyOfF(Sheet sheet) {
      return bits(sheet.f, key[0], key[1]);
    }

    String keyOfG(Sheet sheet) {
      return sheet.g == -1 ? "" : bits(sheet.g, key[2], key[3]);
    }

    static boolean isKey(int how, String key) {
      return how == 2 || key.matches(how == 0 ? "[01]*" : "[01]*[*]*");
    }

    static Line find(Sheet sheet, String key) {
      for (Line line : sheet.lines) {
        if (line.key.equals(key)) {
          return line;
        }
      }
      return null;
    }

    boolean isSheet(int table) {
      return 0 <= table && table < sheets.size();
    }

    boolean insert(int table, int priority, int action, int first, int second) {
      index(isSheet(table));
      Sheet sheet = sheets.get(table);
      String ofF = keyOfF(sheet);
      String ofG = keyOfG(sheet);
      if (!isKey(sheet.howF, ofF) || !isKey(sheet.howG, ofG)
          || action < 0 || action > 15 || (sheet.actions & (1 << action)) == 0
          || find(sheet, ofF + ofG) != null || sheet.lines.size() == 20) {
        return false;
      }
      Line line = new Line();
      line.key = ofF + ofG;
      String prefix = sheet.howF == 1 ? ofF : sheet.howG == 1 ? ofG : "";
      line.ones = prefix.replace("*", "").length();
      line.priority = priority;
      line.action = action;
      line.data = new int[] {first, second};
      sheet.lines.add(line);
      return true;
    }

    boolean remove(int table) {
      index(isSheet(table));
      Sheet sheet = sheets.get(table);
      return sheet.lines.remove(find(sheet, keyOfF(sheet) + keyOfG(sheet)));
    }

    Line match(Sheet sheet) {
      String now = bits(sheet.f, get(sheet.f), -1) + (sheet.g == -1 ? "" : bits(sheet.g, get(sheet.g), -1));
      List<Line> all = new ArrayList<>();
      for (Line line : sheet.lines) {
        if (now.matches(line.key.replace('*', '.'))) {
          all.add(line);
        }
      }
      // The sort is stable: lines that are alike stay in the order in which they came.
      all.sort((a, b) -> a.ones != b.ones ? b.ones - a.ones : Integer.compare(b.priority, a.priority));
      return all.isEmpty() ? null : all.get(0);
    }

    boolean act(int table) {
      index(isSheet(table));
      Sheet sheet = sheets.get(table);
      Line line = match(sheet);
      port = 0;
      dropped = false;
      int[] data = line == null ? new int[2] : line.data;
      for (int[] d : actions.get(line == null ? sheet.miss : line.action)) {
        perform(d[0], d[1], d[2], d[3], data);
      }
      return line != null;
    }

    int sixteenth(int field) {
      return (int) (words.get(field) % 16);
    }

    void perform(int kind, int x, int y, int z, int[] data) {
      switch (kind) {
        case 0 -> put(x, y);
        case 1 -> put(x, words.get(y));
        case 2 -> put(x, words.get(x) + words.get(y) + z);
        case 3 -> put(x, data[y]);
        case 4 -> port = y;
        case 5 -> port = data[y];
        case 6 -> dropped = true;
        case 7 -> arrays[x][sixteenth(y)] += z;
        default -> put(x, arrays[z][sixteenth(y)]);
      }
    }

    int matches(int table) {
      Line line = isSheet(table) ? match(sheets.get(table)) : null;
      return line == null ? -1 : line.action;
    }

    int word(int array, int i) {
      return 0 <= array && array < 4 && 0 <= i && i < 16 ? arrays[array][i] : 0;
    }

    int entries(int table) {
      return isSheet(table) ? sheets.get(table).lines.size() : -1;
    }
  }

  private static final int[] WILD = {
    Integer.MIN_VALUE, Integer.MIN_VALUE + 1, -65536, -32, -16, -2, -1, 16, 31, 32, 33, 255, 65535,
    Integer.MAX_VALUE
  };

  private static int wrong = 0;

  /** Mostly a number that may be there, now and then one that never is. */
  private static int number(Random r, int bound) {
    return r.nextInt(24) == 0 ? WILD[r.nextInt(WILD.length)] : r.nextInt(bound);
  }

  private static int anyWord(Random r) {
    return switch (r.nextInt(4)) {
      case 0 -> r.nextInt(4);
      case 1 -> WILD[r.nextInt(WILD.length)];
      case 2 -> r.nextInt(40) - 20;
      default -> r.nextInt();
    };
  }

  private static int anyMask(Random r, int top) {
    return switch (r.nextInt(6)) {
      case 0, 1 -> -1;
      case 2, 3 -> -1 << r.nextInt(top);
      case 4 -> 0;
      default -> r.nextInt();
    };
  }

  private static final int PRELUDE = 26;

  /** Three small fields, four actions with doings and tables of them, so that entries often match. */
  private static int[] prelude(Random r, int step) {
    if (step < 3) {
      return new int[] {1, 1 + r.nextInt(4)};
    }
    if (step < 7) {
      return new int[] {4};
    }
    if (step < 18) {
      return new int[] {5, r.nextInt(4), r.nextInt(9), r.nextInt(3), r.nextInt(2), r.nextInt(4)};
    }
    int f = r.nextInt(3);
    int how = new int[] {0, 1, 2, 4, 6, 8, 9, 10}[r.nextInt(8)];
    int g = how < 3 && r.nextBoolean() ? -1 : (f + 1 + r.nextInt(2)) % 3;
    return new int[] {6, f, g, how, 15, r.nextInt(4)};
  }

  /** What is done to the objects of a prelude: each call that finds them, with small numbers. */
  private static int[] nearCall(Random r) {
    return switch (r.nextInt(8)) {
      case 0 -> new int[] {2, r.nextInt(3), r.nextInt(16)};
      case 1, 2 -> new int[] {7, r.nextInt(16), anyMask(r, 4), r.nextInt(16), anyMask(r, 4)};
      case 3, 4 -> new int[] {8, r.nextInt(4), r.nextInt(3), r.nextInt(4), r.nextInt(16), anyWord(r)};
      case 5 -> new int[] {10, r.nextInt(4)};
      case 6 -> new int[] {11, r.nextInt(4)};
      default -> new int[][] {{12}, {13}, {3, r.nextInt(3)}, {14, r.nextInt(4), r.nextInt(16)},
          {15, r.nextInt(4)}, {9, r.nextInt(4)}}[r.nextInt(6)];
    };
  }

  private static int[] callOf(Random r, int run, int step) {
    if (run % 2 == 0 || r.nextInt(50) == 0) {
      return anyCall(r, step);
    }
    return step < PRELUDE ? prelude(r, step) : nearCall(r);
  }

  private static int[] anyCall(Random r, int step) {
    // Fields, actions and tables come mostly early, so that later calls have something to use.
    int which = step < 60 && r.nextInt(3) != 0 ? new int[] {1, 4, 5, 5, 6}[r.nextInt(5)] : r.nextInt(40);
    int n = r.nextInt(3) == 0 ? 16 : 5;
    return switch (which) {
      case 0 -> r.nextInt(30) == 0 ? new int[] {0} : new int[] {13};
      case 1 -> new int[] {1, r.nextInt(9) == 0 ? anyWord(r) : 1 + r.nextInt(r.nextBoolean() ? 32 : 4)};
      case 4 -> new int[] {4};
      case 5 -> new int[] {5, number(r, n), number(r, 9), number(r, n), r.nextBoolean() ? r.nextInt(2) : number(r, n), r.nextBoolean() ? r.nextInt(4) : anyWord(r)};
      case 6 -> new int[] {6, number(r, n), r.nextInt(3) == 0 ? -1 : number(r, n), r.nextInt(4) == 0 ? r.nextInt(14) - 1 : new int[] {0, 1, 2, 4, 6, 8, 9, 10}[r.nextInt(8)], r.nextInt(5) == 0 ? anyWord(r) : (1 << r.nextInt(6)) - 1, number(r, 3)};
      case 2, 7, 8, 9 -> new int[] {2, number(r, n), anyWord(r)};
      case 3 -> new int[] {3, number(r, 17)};
      case 10, 11, 12, 13, 14, 15, 16 -> new int[] {7, anyWord(r), anyMask(r, 32), anyWord(r), anyMask(r, 4)};
      case 17, 18, 19, 20, 21, 22, 23, 24, 25 -> new int[] {8, number(r, r.nextBoolean() ? 8 : 2), r.nextInt(4) == 0 ? anyWord(r) : r.nextInt(3), number(r, 5), anyWord(r), anyWord(r)};
      case 26 -> new int[] {9, number(r, 8)};
      case 27, 28, 29, 30, 31 -> new int[] {10, number(r, 8)};
      case 32, 33, 34, 35 -> new int[] {11, number(r, 8)};
      case 36 -> new int[] {12};
      case 37 -> new int[] {14, number(r, 5), number(r, 17)};
      case 38 -> new int[] {15, number(r, 9)};
      default -> new int[] {13};
    };
  }

  private static long one(boolean b) {
    return b ? 1 : 0;
  }

  private static long none(Runnable call) {
    call.run();
    return 0;
  }

  private static long ask(EntryTables x, int[] c) {
    return switch (c[0]) {
      case 0 -> none(x::clear);
      case 1 -> x.field(c[1]);
      case 2 -> none(() -> x.set(c[1], c[2]));
      case 3 -> x.get(c[1]);
      case 4 -> x.action();
      case 5 -> none(() -> x.doing(c[1], c[2], c[3], c[4], c[5]));
      case 6 -> x.table(c[1], c[2], c[3], c[4], c[5]);
      case 7 -> none(() -> x.key(c[1], c[2], c[3], c[4]));
      case 8 -> one(x.insert(c[1], c[2], c[3], c[4], c[5]));
      case 9 -> one(x.remove(c[1]));
      case 10 -> one(x.act(c[1]));
      case 11 -> x.matches(c[1]);
      case 12 -> x.port();
      case 13 -> one(x.isDropped());
      case 14 -> x.word(c[1], c[2]);
      default -> x.entries(c[1]);
    };
  }

  private static long ask(Model m, int[] c) {
    return switch (c[0]) {
      case 1 -> m.field(c[1]);
      case 2 -> none(() -> m.set(c[1], c[2]));
      case 3 -> m.get(c[1]);
      case 4 -> m.action();
      case 5 -> none(() -> m.doing(c[1], c[2], c[3], c[4], c[5]));
      case 6 -> m.table(c[1], c[2], c[3], c[4], c[5]);
      case 7 -> none(() -> m.key = new int[] {c[1], c[2], c[3], c[4]});
      case 8 -> one(m.insert(c[1], c[2], c[3], c[4], c[5]));
      case 9 -> one(m.remove(c[1]));
      case 10 -> one(m.act(c[1]));
      case 11 -> m.matches(c[1]);
      case 12 -> m.port;
      case 13 -> one(m.dropped);
      case 14 -> m.word(c[1], c[2]);
      case 15 -> m.entries(c[1]);
      default -> 0;
    };
  }

  private static String answer(EntryTables x, int[] c) {
    try {
      return Long.toString(ask(x, c));
    } catch (RuntimeException e) {
      return e.getClass().getSimpleName();
    }
  }

  private static String answer(Model m, int[] c) {
    try {
      return Long.toString(ask(m, c));
    } catch (Refusal e) {
      return e.getMessage();
    }
  }

  private static void compare(int run, int step, int[] call, String got, String want) {
    if (!got.equals(want)) {
      wrong++;
      System.out.println("run " + run + ", call " + step + ": " + java.util.Arrays.toString(call)
          + " answered " + got + ", due is " + want);
    }
  }

  /** Returns how often an entry matched, as runs without a match would show little. */
  private static int wildRun(int run) {
    Random r = new Random(run);
    EntryTables x = new EntryTables();
    Model m = new Model();
    int matched = 0;
    for (int step = 0; step < CALLS && wrong < 20; step++) {
      int[] call = callOf(r, run, step);
      String want;
      if (call[0] == 0) {
        m = new Model();
        want = "0";
      } else {
        want = answer(m, call);
      }
      compare(run, step, call, answer(x, call), want);
      matched += call[0] == 10 && want.equals("1") ? 1 : 0;
    }
    return matched;
  }

  public static void main(String[] args) {
    int matched = 0;
    for (int run = 0; run < RUNS && wrong < 20; run++) {
      matched += wildRun(run);
    }
    if (wrong == 0 && matched < 10 * RUNS) {
      wrong++;
      System.out.println("only " + matched + " calls of act() matched: the runs show too little");
    }
    System.out.println(wrong == 0 ? "all answers are as due (" + matched + " matched)" : wrong + " answers are not as due");
    if (wrong != 0) {
      System.exit(1);
    }
  }
}
