/** For each promise of the document: ordinary inputs, the edges that it names, wrong inputs. */
public final class PromisesTest extends Due {
  /** Asks all that a new object answers, and uses it up. */
  private static void dueNew(String when, EntryTables x) {
    for (int i = -1; i <= 16; i++) {
      int n = i;
      due(when + " get", x.get(i), 0);
      due(when + " matches", x.matches(i), NONE);
      due(when + " entries", x.entries(i), NONE);
      for (int array = -1; array <= 4; array++) {
        due(when + " word", x.word(array, i), 0);
      }
      dueIndex(when + " set", () -> x.set(n, 1));
      dueIndex(when + " doing", () -> x.doing(n, 6, 0, 0, 0));
      dueIndex(when + " table", () -> x.table(n, NONE, 0, 1, 0));
      dueIndex(when + " insert", () -> x.insert(n, 0, 0, 0, 0));
      dueIndex(when + " remove", () -> x.remove(n));
      dueIndex(when + " act", () -> x.act(n));
    }
    due(when + " port", x.port(), 0);
    due(when + " isDropped", x.isDropped(), false);
    due(when + " field", x.field(8), 0);
    due(when + " field's word", x.get(0), 0);
    dueIndex(when + " table without actions", () -> x.table(0, NONE, 0, 1, 0));
    due(when + " action", x.action(), 0);
    due(when + " table", x.table(0, NONE, 2, 1, 0), 0);
    due(when + " table's entries", x.entries(0), 0);
    due(when + " insert with no key() yet", x.insert(0, 0, 0, 0, 0), true);
    due(when + " second field", x.field(8), 1);
    due(when + " table of both", x.table(0, 1, 2 + 4 * 2, 1, 0), 1);
    due(when + " insert into it", x.insert(1, 0, 0, 0, 0), true);
    x.set(0, ALL);
    x.set(1, ALL);
    due(when + " all masks are 0", x.matches(0), 0);
    due(when + " for both keys", x.matches(1), 0);
    due(when + " act", x.act(0), true);
    due(when + " the action had no doings: port", x.port(), 0);
    due(when + " the action had no doings: drop", x.isDropped(), false);
  }

  private static void promise1() {
    due("NONE", NONE, -1);
    dueNew("1 new:", new EntryTables());
    EntryTables one = new EntryTables();
    EntryTables other = new EntryTables();
    one.field(32);
    due("1 objects are apart", other.field(1), 0);
    one.set(0, 7);
    due("1 words are apart", other.get(0), 0);
  }

  private static void promise2() {
    EntryTables x = ready();
    x.doing(0, 7, 0, 1, 9);
    x.doing(0, 7, 3, 1, 9);
    x.doing(0, 4, 0, 5, 0);
    x.doing(0, 6, 0, 0, 0);
    x.table(0, 1, 2 + 4 * 2, 15, 0);
    x.table(0, NONE, 0, 15, 0);
    x.set(0, 77);
    x.set(1, 15);
    x.key(77, ALL, 15, ALL);
    due("2 insert", x.insert(0, 1, 0, 0, 0), true);
    due("2 act", x.act(0), true);
    due("2 port ahead", x.port(), 5);
    due("2 word ahead", x.word(3, 15), 9);
    x.clear();
    dueNew("2 cleared:", x);
    x.clear();
    for (int i = 0; i < 16; i++) {
      due("2 fields again", x.field(1), i);
      due("2 actions again", x.action(), i);
      x.doing(i, 6, 0, 0, 0);
    }
    for (int i = 0; i < 8; i++) {
      due("2 tables again", x.table(0, NONE, 0, 1, 0), i);
    }
  }

  private static void promise3() {
    EntryTables x = new EntryTables();
    int[] noWidths = {Integer.MIN_VALUE, -32, -1, 0, 33, 64, Integer.MAX_VALUE};
    for (int width : noWidths) {
      dueArgument("3 field(" + width + ")", () -> x.field(width));
    }
    for (int i = 0; i < 16; i++) {
      due("3 field's number", x.field(i == 0 ? 1 : i == 1 ? 32 : i), i);
      due("3 it holds 0", x.get(i), 0);
    }
    dueState("3 a field 16", () -> x.field(8));
    dueArgument("3 the width ahead of the number", () -> x.field(33));
    dueIndex("3 no field 16 came", () -> x.set(16, 1));
  }

  private static void promise4() {
    EntryTables x = new EntryTables();
    for (int i = 0; i < 16; i++) {
      int none = i;
      dueIndex("4 no field yet", () -> x.set(none, 1));
      x.field(2 * i + 1);
    }
    for (int i = 0; i < 16; i++) {
      x.set(i, ALL);
    }
    for (int i = 0; i < 16; i++) {
      due("4 cut to " + (2 * i + 1), x.get(i), (1L << (2 * i + 1)) - 1);
    }
    for (int field : NO_NUMBER) {
      dueIndex("4 set(" + field + ")", () -> x.set(field, 1));
    }
    x.set(2, 32);
    due("4 a bit above the width is cut", x.get(2), 0);
    x.set(2, 16);
    due("4 the top bit stays", x.get(2), 16);
    due("4 the next field stays", x.get(3), 127);
  }

  private static void promise5() {
    EntryTables x = new EntryTables();
    x.field(32);
    x.field(31);
    x.set(0, Integer.MIN_VALUE + 3);
    x.set(1, Integer.MIN_VALUE + 3);
    due("5 32 bits", x.get(0), Integer.MIN_VALUE + 3);
    due("5 31 bits", x.get(1), 3);
    due("5 no field yet", x.get(2), 0);
    for (int field : NO_NUMBER) {
      due("5 get(" + field + ")", x.get(field), 0);
    }
  }

  private static void promise6() {
    EntryTables x = new EntryTables();
    for (int i = 0; i < 16; i++) {
      due("6 action's number", x.action(), i);
    }
    dueState("6 an action 16", x::action);
    dueState("6 and again", x::action);
    dueIndex("6 no action 16 came", () -> x.doing(16, 6, 0, 0, 0));
  }

  private static void promise7wrong() {
    EntryTables x = ready();
    for (int kind : new int[] {Integer.MIN_VALUE, -1, 9, 10, Integer.MAX_VALUE}) {
      dueArgument("7 kind " + kind, () -> x.doing(0, kind, 0, 0, 0));
      dueArgument("7 the kind first " + kind, () -> x.doing(-1, kind, -1, -1, -1));
    }
    for (int action : NO_NUMBER) {
      dueIndex("7 action " + action, () -> x.doing(action, 6, 0, 0, 0));
    }
    dueIndex("7 action 4", () -> x.doing(4, 6, 0, 0, 0));
    int[][] none = {
      {0, -1, 0, 0}, {0, 4, 0, 0}, {1, -1, 0, 0}, {1, 4, 0, 0}, {1, 0, -1, 0}, {1, 0, 4, 0},
      {2, -1, 0, 0}, {2, 4, 0, 0}, {2, 0, -1, 0}, {2, 0, 4, 0},
      {3, -1, 0, 0}, {3, 4, 0, 0}, {3, 0, -1, 0}, {3, 0, 2, 0},
      {5, 0, -1, 0}, {5, 0, 2, 0},
      {7, -1, 0, 0}, {7, 4, 0, 0}, {7, 0, -1, 0}, {7, 0, 4, 0},
      {8, -1, 0, 0}, {8, 4, 0, 0}, {8, 0, -1, 0}, {8, 0, 4, 0}, {8, 0, 0, -1}, {8, 0, 0, 4},
    };
    for (int[] d : none) {
      dueIndex("7 kind " + d[0] + " of " + d[1] + ", " + d[2] + ", " + d[3],
          () -> x.doing(0, d[0], d[1], d[2], d[3]));
    }
    for (int i = 0; i < 4; i++) {
      x.doing(0, 6, 0, 0, 0);
    }
    dueState("7 a fifth doing", () -> x.doing(0, 6, 0, 0, 0));
    dueIndex("7 no such field ahead of the fifth", () -> x.doing(0, 0, 4, 0, 0));
    dueArgument("7 no such kind ahead of the fifth", () -> x.doing(0, 9, 0, 0, 0));
  }

  /** What a kind does not use may be anything. */
  private static void promise7free() {
    EntryTables x = ready();
    x.doing(0, 0, 3, -9, -9);
    x.doing(0, 1, 3, 3, -9);
    x.doing(0, 2, 3, 3, -9);
    x.doing(0, 3, 3, 1, -9);
    x.doing(1, 4, -9, -9, -9);
    x.doing(1, 5, -9, 1, -9);
    x.doing(1, 6, -9, -9, -9);
    x.doing(1, 7, 3, 3, -9);
    x.doing(2, 8, 3, 3, 3);
    x.table(0, NONE, 0, 15, 3);
    for (int action = 0; action < 3; action++) {
      insert(x, 0, 0, ALL, 0, action);
      due("7 act", x.act(0), true);
      remove(x, 0, 0, ALL);
    }
    due("7 the doings of each were done", x.word(3, 0), -9);
  }

  private static void promise8() {
    EntryTables x = ready();
    for (int f : new int[] {Integer.MIN_VALUE, -2, -1, 4, 16, Integer.MAX_VALUE}) {
      dueIndex("8 f " + f, () -> x.table(f, 0, 0, 1, 0));
      dueIndex("8 f alone " + f, () -> x.table(f, NONE, 0, 1, 0));
      if (f != NONE) {
        dueIndex("8 g " + f, () -> x.table(0, f, 0, 1, 0));
      }
    }
    for (int f = 0; f < 4; f++) {
      int both = f;
      dueIndex("8 f is g", () -> x.table(both, both, 0, 1, 0));
    }
    for (int actions : new int[] {0, 16, 17, 1 << 15, 1 << 16, 1 | 1 << 31, -1, -2}) {
      dueIndex("8 actions " + actions, () -> x.table(0, NONE, 0, actions, 0));
    }
    for (int miss : new int[] {Integer.MIN_VALUE, -32, -1, 1, 3, 4, 32, 34, Integer.MAX_VALUE}) {
      dueIndex("8 miss " + miss, () -> x.table(0, NONE, 0, 5, miss));
    }
    for (int how : new int[] {Integer.MIN_VALUE, -4, -1, 3, 7, 11, 12, 13, 14, 15, 16, 5, Integer.MAX_VALUE}) {
      dueArgument("8 how " + how, () -> x.table(0, 1, how, 1, 0));
      dueIndex("8 fields ahead of how", () -> x.table(0, 4, how, 1, 0));
      dueIndex("8 actions ahead of how", () -> x.table(0, 1, how, 1, 1));
    }
    for (int how : new int[] {-4, -1, 3, 4, 5, 6, 7, 8, 9, 10, 12}) {
      dueArgument("8 how without g " + how, () -> x.table(0, NONE, how, 1, 0));
    }
    due("8 none came", x.entries(0), NONE);
    int[] hows = {0, 1, 2, 4, 6, 8, 9, 10};
    for (int i = 0; i < 8; i++) {
      due("8 table's number", x.table(0, 1, hows[i], 15, 3), i);
    }
    dueState("8 a table 8", () -> x.table(0, 1, 0, 1, 0));
    dueIndex("8 fields ahead of the number", () -> x.table(4, 1, 0, 1, 0));
    dueArgument("8 how ahead of the number", () -> x.table(0, 1, 5, 1, 0));
    due("8 no table 8 came", x.entries(8), NONE);
    x.clear();
    x.field(1);
    x.action();
    for (int i = 0; i < 3; i++) {
      due("8 one key", x.table(0, NONE, i, 1, 0), i);
    }
    for (int i = 1; i < 16; i++) {
      x.action();
    }
    due("8 all 16 actions", x.table(0, NONE, 0, 65535, 15), 3);
    dueIndex("8 a bit above them", () -> x.table(0, NONE, 0, 65536 + 65535, 15));
  }

  private static void promise9() {
    EntryTables x = ready();
    x.table(1, NONE, 0, 3, 0);
    x.table(1, 2, 0, 3, 0);
    x.table(1, 2, 2 + 4, 3, 0);
    x.key(3, ALL, 9, 5);
    due("9 g does not count without one", x.insert(0, 0, 1, 0, 0), true);
    x.key(3, ALL, 8, 7);
    due("9 it is no other entry", x.insert(0, 0, 1, 0, 0), false);
    due("9 nor one that could not go", x.remove(0), true);
    due("9 it is gone", x.entries(0), 0);
    due("9 g counts with one", x.insert(1, 0, 1, 0, 0), false);
    x.key(3, ALL, 9, ALL);
    due("9 the key stays", x.insert(0, 0, 1, 0, 0), true);
    due("9 for the next table", x.insert(1, 0, 1, 0, 0), true);
    due("9 and the one behind it", x.insert(2, 0, 1, 0, 0), true);
    due("9 and for remove", x.remove(1), true);
    due("9 that took no other table's", x.entries(2), 1);
    x.set(1, 3);
    x.set(2, 9);
    due("9 both keys match", x.matches(2), 1);
    x.set(2, 8);
    due("9 g does not match", x.matches(2), NONE);
    x.set(2, 9);
    x.set(1, 2);
    due("9 f does not match", x.matches(2), NONE);
  }

  /** A new object for each mask, as one is used for 512 calls at most. */
  private static void promise10everyMask() {
    for (int mask = 0; mask < 256; mask++) {
      EntryTables x = ready();
      for (int how = 0; how < 3; how++) {
        x.table(1, NONE, how, 3, 0);
      }
      boolean prefix = Integer.toBinaryString(256 + mask).substring(1).matches("1*0*");
      due("10 EXACT " + mask, insert(x, 0, 0, mask, 0, 1), mask == 255);
      due("10 PREFIX " + mask, insert(x, 1, 0, mask, 0, 1), prefix);
      due("10 MASKED " + mask, insert(x, 2, 0, mask, 0, 1), true);
    }
  }

  private static void promise10masks() {
    EntryTables x = ready();
    x.table(1, NONE, 0, 3, 0);
    x.table(1, NONE, 1, 3, 0);
    x.table(1, NONE, 2, 3, 0);
    x.table(0, NONE, 1, 3, 0);
    x.table(3, NONE, 1, 3, 0);
    x.table(2, 1, 4, 3, 0);
    due("10 EXACT beyond the field", insert(x, 0, 0, ALL, 0, 1), true);
    due("10 PREFIX beyond the field", insert(x, 1, 0, -16, 0, 1), true);
    due("10 is cut to it", insert(x, 1, 256, 240, 0, 1), false);
    due("10 32 bits, none", insert(x, 3, 5, 0, 0, 1), true);
    due("10 32 bits, one", insert(x, 3, 5, 1 << 31, 0, 1), true);
    due("10 32 bits, all", insert(x, 3, 5, ALL, 0, 1), true);
    due("10 32 bits, not from the top", insert(x, 3, 5, Integer.MAX_VALUE, 0, 1), false);
    due("10 32 bits, a gap", insert(x, 3, 5, (3 << 30) | 1, 0, 1), false);
    due("10 1 bit, none", insert(x, 4, 1, 0, 0, 1), true);
    due("10 1 bit, one", insert(x, 4, 1, 1, 0, 1), true);
    due("10 1 bit, cut to none", insert(x, 4, 1, 2, 0, 1), false);
    x.key(1, 15, 128, 192);
    due("10 PREFIX of g", x.insert(5, 0, 1, 0, 0), true);
    x.key(1, 15, 128, 96);
    due("10 no PREFIX of g", x.insert(5, 0, 1, 0, 0), false);
    x.key(1, 14, 128, 128);
    due("10 not EXACT f", x.insert(5, 0, 1, 0, 0), false);
  }

  private static void promise10refused() {
    EntryTables x = ready();
    x.table(1, NONE, 2, 10, 1);
    x.table(1, NONE, 0, 15, 1);
    x.key(5, 7, 0, 0);
    for (int action : NO_NUMBER) {
      due("10 action " + action, x.insert(0, 0, action, 0, 0), false);
    }
    for (int action = 0; action < 16; action++) {
      due("10 may it do " + action, x.insert(0, 0, action, 0, 0), action == 1 || action == 3);
      x.remove(0);
    }
    due("10 it comes", x.insert(0, 4, 1, 0, 0), true);
    due("10 the same with all else other", x.insert(0, 5, 3, 1, 1), false);
    due("10 the same where the mask has ones", insert(x, 0, 13, 7, 0, 1), false);
    due("10 the same cut to the field", insert(x, 0, 5 + 256, 7 + 512, 0, 1), false);
    due("10 another mask", insert(x, 0, 5, 15, 0, 1), true);
    due("10 another value", insert(x, 0, 4, 7, 0, 1), true);
    due("10 three are there", x.entries(0), 3);
    x.set(1, 13);
    due("10 the old one is as it was", x.matches(0), 1);
    for (int i = 0; i < 24; i++) {
      due("10 entry " + i, insert(x, 1, i, ALL, 0, i & 3), i < 20);
      due("10 entries", x.entries(1), Math.min(i + 1, 20));
    }
    due("10 one goes", remove(x, 1, 7, ALL), true);
    due("10 one comes", insert(x, 1, 99, ALL, 0, 2), true);
    due("10 another does not", insert(x, 1, 98, ALL, 0, 2), false);
    x.set(1, 99);
    due("10 it matches", x.matches(1), 2);
    x.set(1, 7);
    due("10 the old one does not", x.matches(1), NONE);
    for (int table : NO_NUMBER) {
      dueIndex("10 table " + table, () -> x.insert(table, 0, 1, 0, 0));
    }
    dueIndex("10 no table yet", () -> x.insert(2, 0, 1, 0, 0));
  }

  private static void promise11() {
    EntryTables x = ready();
    x.table(1, NONE, 2, 15, 0);
    x.table(1, NONE, 1, 15, 0);
    for (int table : NO_NUMBER) {
      dueIndex("11 table " + table, () -> x.remove(table));
    }
    dueIndex("11 no table yet", () -> x.remove(2));
    due("11 none is there", remove(x, 0, 1, 1), false);
    insert(x, 0, 1, 1, 0, 1);
    insert(x, 0, 0, 0, 0, 2);
    insert(x, 0, 3, 3, 0, 3);
    x.set(1, 7);
    due("11 the first", x.matches(0), 1);
    due("11 another mask", remove(x, 0, 3, 7), false);
    due("11 another value", remove(x, 0, 2, 3), false);
    due("11 it goes", remove(x, 0, 5 + 256, 1 + 256), true);
    due("11 but once", x.remove(0), false);
    due("11 two stay", x.entries(0), 2);
    due("11 the next", x.matches(0), 2);
    due("11 it comes again", insert(x, 0, 1, 1, 0, 1), true);
    due("11 as the last", x.matches(0), 2);
    due("11 the one ahead goes", remove(x, 0, 0, 0), true);
    due("11 the order stays", x.matches(0), 3);
    due("11 the last goes", remove(x, 0, 1, 1), true);
    due("11 the order still stays", x.matches(0), 3);
    due("11 the only one goes", remove(x, 0, 3, 3), true);
    due("11 none matches", x.matches(0), NONE);
    due("11 none is left", x.entries(0), 0);
    insert(x, 1, 128, 128, 0, 1);
    due("11 masks that are none", remove(x, 1, 128, 129), false);
    due("11 it is there yet", x.entries(1), 1);
  }

  private static EntryTables doings(int[][] first) {
    EntryTables x = ready();
    give(x, 1, first);
    x.table(3, NONE, 0, 3, 1);
    x.table(3, NONE, 2, 3, 0);
    x.key(0, 0, 0, 0);
    x.insert(1, 0, 1, 1234567, -2);
    x.set(0, -5);
    x.set(1, 200);
    x.set(2, 9);
    x.set(3, 1);
    return x;
  }

  private static EntryTables done(int table, int[]... doings) {
    EntryTables x = doings(doings);
    due("12 act", x.act(table), table == 1);
    return x;
  }

  private static void promise12kinds() {
    due("12 kind 0", done(1, d(0, 0, -77, 3)).get(0), -77);
    due("12 kind 0 cut", done(1, d(0, 1, -77, 3)).get(1), 256 - 77);
    due("12 kind 1", done(1, d(1, 0, 1, 3)).get(0), 200);
    due("12 kind 1 cut", done(1, d(1, 2, 1, 3)).get(2), 8);
    due("12 kind 1 of itself", done(1, d(1, 1, 1, 3)).get(1), 200);
    due("12 kind 2", done(1, d(2, 0, 2, 30)).get(0), 34);
    due("12 kind 2 cut", done(1, d(2, 1, 1, 3)).get(1), 403 - 256);
    due("12 kind 2 less", done(1, d(2, 1, 2, -10)).get(1), 199);
    due("12 kind 2 below 0", done(1, d(2, 2, 3, -11)).get(2), 15);
    due("12 kind 3, datum 0", done(1, d(3, 0, 0, 3)).get(0), 1234567);
    due("12 kind 3, datum 1", done(1, d(3, 0, 1, 3)).get(0), -2);
    due("12 kind 3 cut", done(1, d(3, 2, 1, 3)).get(2), 14);
    due("12 kind 3 without a match", done(0, d(3, 0, 1, 3)).get(0), 0);
    due("12 kind 4", done(1, d(4, 0, -8, 3)).port(), -8);
    due("12 kind 5, datum 0", done(1, d(5, 1, 0, 1)).port(), 1234567);
    due("12 kind 5, datum 1", done(1, d(5, 0, 1, 0)).port(), -2);
    due("12 kind 5 without a match", done(0, d(4, 0, 3, 0), d(5, 0, 0, 0)).port(), 0);
    due("12 kind 6", done(1, d(6, 0, 0, 0)).isDropped(), true);
    due("12 kind 7", done(1, d(7, 3, 2, 5)).word(3, 9), 5);
    due("12 kind 7 modulo 16", done(1, d(7, 0, 1, 5)).word(0, 8), 5);
    due("12 kind 7 unsigned", done(1, d(7, 0, 0, -5)).word(0, 11), -5);
    due("12 kind 7 twice", done(1, d(7, 1, 3, 5), d(7, 1, 3, 6)).word(1, 1), 11);
    due("12 kind 7 around", done(1, d(7, 1, 3, Integer.MAX_VALUE), d(7, 1, 3, 1)).word(1, 1), Integer.MIN_VALUE);
    due("12 kind 8", done(1, d(7, 2, 0, 77), d(8, 0, 0, 2)).get(0), 77);
    due("12 kind 8 modulo 16", done(1, d(7, 2, 1, 77), d(8, 0, 1, 2)).get(0), 77);
    due("12 kind 8 cut", done(1, d(7, 2, 0, 77), d(8, 2, 0, 2)).get(2), 13);
    due("12 kind 8 of another array", done(1, d(7, 2, 0, 77), d(8, 0, 0, 1)).get(0), 0);
    due("12 no doings", done(1).port(), 0);
  }

  private static void promise12order() {
    EntryTables x = done(1, d(0, 3, 0, 0), d(1, 1, 3, 0), d(2, 1, 1, 6), d(7, 0, 1, 1));
    due("12 one after the other", x.get(1), 6);
    due("12 to the fourth", x.word(0, 6), 1);
    due("12 the last port stays", done(1, d(4, 0, 3, 0), d(4, 0, 4, 0)).port(), 4);
    x = doings(new int[][] {d(0, 3, 1, 0)});
    due("12 a doing may come later", x.act(1), true);
    x.doing(1, 4, 0, 9, 0);
    due("12 again", x.act(1), true);
    due("12 it is done then", x.port(), 9);
    for (int table : NO_NUMBER) {
      EntryTables y = x;
      dueIndex("12 table " + table, () -> y.act(table));
    }
    due("12 a wrong act() is none", x.port(), 9);
  }

  /** The entry is found with the fields as they are ahead of the action. */
  private static void promise12miss() {
    EntryTables x = ready();
    x.doing(0, 6, 0, 0, 0);
    x.doing(1, 0, 1, 5, 0);
    x.doing(1, 4, 0, 2, 0);
    x.table(1, NONE, 0, 3, 0);
    insert(x, 0, 4, ALL, 0, 1);
    due("12 no match", x.act(0), false);
    due("12 the miss is done", x.isDropped(), true);
    x.set(1, 4);
    due("12 match", x.act(0), true);
    due("12 its action is done", x.get(1), 5);
    due("12 DROP is not done", x.isDropped(), false);
    due("12 its port", x.port(), 2);
    due("12 no match again", x.act(0), false);
    due("12 the port is 0 ahead", x.port(), 0);
  }

  private static void promise13() {
    EntryTables x = ready();
    x.doing(1, 0, 0, 5, 0);
    x.table(0, NONE, 1, 15, 0);
    x.table(2, 1, 2 + 4, 15, 0);
    for (int table : NO_NUMBER) {
      due("13 table " + table, x.matches(table), NONE);
    }
    due("13 no table yet", x.matches(2), NONE);
    due("13 the miss is no match", x.matches(0), NONE);
    insert(x, 0, 0, 0, 9, 1);
    insert(x, 0, 5 << 28, -1 << 28, 8, 2);
    insert(x, 0, 1 << 30, -1 << 30, Integer.MAX_VALUE, 3);
    x.set(0, 5 << 28);
    due("13 more ones in the PREFIX", x.matches(0), 2);
    x.set(0, 4 << 28);
    due("13 fewer ones", x.matches(0), 3);
    x.set(0, 0);
    due("13 no ones", x.matches(0), 1);
    due("13 nothing is done", x.get(0), 0);
    insert(x, 0, -1, -1, Integer.MIN_VALUE, 2);
    x.set(0, -1);
    due("13 32 ones", x.matches(0), 2);
    promise13two(x);
    promise13priority();
  }

  private static void promise13two(EntryTables x) {
    x.set(2, 15);
    x.set(1, 255);
    x.key(0, 0, 192, 192);
    x.insert(1, 1, 1, 0, 0);
    x.key(15, 15, 128, 128);
    x.insert(1, 9, 2, 0, 0);
    due("13 the PREFIX mask of g alone counts", x.matches(1), 1);
    x.key(3, 3, 192, 192);
    x.insert(1, 1, 2, 0, 0);
    due("13 of the same priority the first", x.matches(1), 1);
    x.key(1, 1, 192, 192);
    x.insert(1, 2, 3, 0, 0);
    due("13 of the same PREFIX the greater priority", x.matches(1), 3);
    x.set(1, 128);
    due("13 the shorter one", x.matches(1), 2);
  }

  private static void promise13priority() {
    EntryTables x = ready();
    x.table(1, 2, 2 + 4 * 2, 15, 0);
    int[] priorities = {Integer.MIN_VALUE, -1, 0, 1, Integer.MAX_VALUE};
    for (int i = 0; i < priorities.length; i++) {
      insert(x, 0, 0, 1 << i, priorities[i], i & 3);
      due("13 a greater priority", x.matches(0), i & 3);
    }
    x.key(0, 255, 0, 15);
    x.insert(0, Integer.MAX_VALUE - 1, 3, 0, 0);
    due("13 ones of no PREFIX do not count", x.matches(0), 0);
    x.set(1, 16);
    due("13 the others are left", x.matches(0), 3);
  }

  private static void promise14() {
    EntryTables x = ready();
    due("14 no act() yet", x.port(), 0);
    x.doing(1, 4, 0, Integer.MIN_VALUE, 0);
    x.table(0, NONE, 0, 3, 1);
    x.table(0, NONE, 0, 3, 0);
    x.act(0);
    due("14 the port", x.port(), Integer.MIN_VALUE);
    x.matches(1);
    x.set(0, 1);
    due("14 other calls leave it", x.port(), Integer.MIN_VALUE);
    x.act(1);
    due("14 of the latest act()", x.port(), 0);
  }

  private static void promise15() {
    EntryTables x = ready();
    due("15 no act() yet", x.isDropped(), false);
    x.doing(1, 4, 0, 3, 0);
    x.doing(1, 6, 0, 0, 0);
    x.doing(1, 0, 0, 4, 0);
    x.table(0, NONE, 0, 3, 1);
    x.table(0, NONE, 0, 3, 0);
    x.act(0);
    due("15 dropped", x.isDropped(), true);
    due("15 the port stays", x.port(), 3);
    due("15 what comes behind it is done", x.get(0), 4);
    dueIndex("15 a wrong act()", () -> x.act(2));
    due("15 is none", x.isDropped(), true);
    x.act(1);
    due("15 of the latest act()", x.isDropped(), false);
  }

  private static void promise16() {
    EntryTables x = ready();
    for (int array = 0; array < 4; array++) {
      x.doing(0, 7, array, 2, array + 1);
    }
    x.table(3, NONE, 0, 1, 0);
    for (int i = 0; i < 16; i++) {
      x.set(2, i);
      for (int times = 0; times <= i; times++) {
        x.act(0);
      }
    }
    for (int array = 0; array < 4; array++) {
      for (int i = 0; i < 16; i++) {
        due("16 word " + array + ", " + i, x.word(array, i), (array + 1) * (i + 1));
      }
    }
    for (int none : NO_NUMBER) {
      due("16 array " + none, x.word(none, 0), 0);
      due("16 word " + none, x.word(0, none), 0);
      due("16 word behind " + none, x.word(1, none), 0);
    }
    due("16 array 4", x.word(4, 0), 0);
  }

  private static void promise17() {
    EntryTables x = ready();
    due("17 no table yet", x.entries(0), NONE);
    x.table(1, NONE, 0, 1, 0);
    x.table(1, NONE, 0, 1, 0);
    due("17 none", x.entries(0), 0);
    insert(x, 1, 1, ALL, 0, 0);
    insert(x, 1, 2, ALL, 0, 0);
    insert(x, 1, 2, ALL, 0, 0);
    due("17 of one table", x.entries(0), 0);
    due("17 of the other", x.entries(1), 2);
    remove(x, 1, 1, ALL);
    remove(x, 1, 1, ALL);
    due("17 one went", x.entries(1), 1);
    for (int table : NO_NUMBER) {
      due("17 table " + table, x.entries(table), NONE);
    }
    due("17 no table 2 yet", x.entries(2), NONE);
  }

  public static void main(String[] args) {
    promise1();
    promise2();
    promise3();
    promise4();
    promise5();
    promise6();
    promise7wrong();
    promise7free();
    promise8();
    promise9();
    promise10everyMask();
    promise10masks();
    promise10refused();
    promise11();
    promise12kinds();
    promise12order();
    promise12miss();
    promise13();
    promise14();
    promise15();
    promise16();
    promise17();
    end();
  }
}
