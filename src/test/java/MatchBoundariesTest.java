/** When an entry MATCHES, which of several, and what is done without one; promises 12 and 13. */
public final class MatchBoundariesTest extends Due {
  private static final int EXACT = 0;
  private static final int PREFIX = 1;
  private static final int MASKED = 2;

  /** Actions 0 .. 15, of which each but 0 makes the PORT its DATUM 0; fields of 32, 8 and 4 bits. */
  private static EntryTables keyed(int f, int g, int how) {
    EntryTables x = new EntryTables();
    x.field(32);
    x.field(8);
    x.field(4);
    for (int i = 0; i < 16; i++) {
      x.action();
      if (i != 0) {
        x.doing(i, 5, 0, 0, 0);
      }
    }
    x.table(f, g, how, 65535, 0);
    return x;
  }

  private static void comes(EntryTables x, int a, int maskA, int b, int maskB, int priority, int action) {
    x.key(a, maskA, b, maskB);
    due("insert of " + action, x.insert(0, priority, action, 1000 + action, 0), true);
  }

  /** What matches() says, act() does. */
  private static void dueMatch(String what, EntryTables x, int action) {
    due(what + ", matches", x.matches(0), action);
    due(what + ", act", x.act(0), action != NONE);
    due(what + ", port", x.port(), action == NONE || action == 0 ? 0 : 1000 + action);
  }

  private static void dueBits(int width, int how, int value, int mask) {
    EntryTables x = new EntryTables();
    x.field(width);
    x.action();
    x.table(0, NONE, how, 1, 0);
    due("insert", insert(x, 0, value, mask, 0, 0), true);
    x.set(0, value);
    due("as it is", x.matches(0), 0);
    for (int bit = 0; bit < width; bit++) {
      x.set(0, value ^ 1 << bit);
      due("bit " + bit + " is another", x.matches(0), (mask >> bit & 1) != 0 ? NONE : 0);
    }
    x.set(0, ~value);
    due("all bits are others", x.matches(0), (mask & -1 >>> (32 - width)) != 0 ? NONE : 0);
  }

  private static void bits() {
    for (int width : new int[] {1, 2, 8, 31, 32}) {
      test("it MATCHES where the masks have ones: EXACT, " + width + " bits", () -> {
        for (int value : new int[] {0, ALL, MIN, 1, 0x5A5A5A5A}) {
          dueBits(width, EXACT, value, ALL);
        }
      });
      test("it MATCHES where the masks have ones: MASKED, " + width + " bits", () -> {
        for (int mask : new int[] {0, ALL, MIN, 1, 0x5A5A5A5A, 0xA5A5A5A5}) {
          dueBits(width, MASKED, 0x33333333, mask);
          dueBits(width, MASKED, 0xCCCCCCCC, mask);
        }
      });
      test("it MATCHES where the masks have ones: PREFIX, " + width + " bits", () -> {
        for (int length = 0; length <= width; length++) {
          int mask = (int) (-1L << (width - length));
          dueBits(width, PREFIX, 0x33333333, mask);
          dueBits(width, PREFIX, 0xCCCCCCCC, mask);
        }
      });
    }
    test("it MATCHES the word as it is cut", () -> {
      EntryTables x = keyed(1, NONE, EXACT);
      comes(x, 5, ALL, 0, 0, 0, 1);
      x.set(1, 256 + 5);
      dueMatch("cut", x, 1);
      x.set(0, 5);
      x.set(1, 6);
      dueMatch("another field's word", x, NONE);
    });
  }

  private static void twoKeys() {
    test("of two keys both must match", () -> {
      EntryTables x = keyed(1, 2, EXACT + 4 * EXACT);
      comes(x, 5, ALL, 6, ALL, 0, 1);
      for (int f : new int[] {5, 6, 0}) {
        for (int g : new int[] {5, 6, 0}) {
          x.set(1, f);
          x.set(2, g);
          dueMatch(f + ", " + g, x, f == 5 && g == 6 ? 1 : NONE);
        }
      }
    });
    test("of two keys both must match: one mask has no ones", () -> {
      EntryTables x = keyed(1, 2, MASKED + 4 * MASKED);
      comes(x, 5, 0, 6, ALL, 0, 1);
      comes(x, 5, ALL, 6, 0, 0, 2);
      x.set(2, 6);
      dueMatch("g alone", x, 1);
      x.set(1, 5);
      x.set(2, 0);
      dueMatch("f alone", x, 2);
      x.set(1, 4);
      dueMatch("neither", x, NONE);
    });
    test("of two keys both must match: neither mask has ones", () -> {
      EntryTables x = keyed(1, 2, MASKED + 4 * MASKED);
      comes(x, 5, 0, 6, 0, 0, 1);
      x.set(1, 200);
      x.set(2, 15);
      dueMatch("all", x, 1);
    });
    test("g is NONE: no other field counts", () -> {
      EntryTables x = keyed(1, NONE, EXACT);
      comes(x, 5, ALL, 7, ALL, 0, 1);
      x.set(1, 5);
      for (int other = 0; other < 4; other++) {
        x.set(0, other);
        x.set(2, other);
        dueMatch("others are " + other, x, 1);
      }
    });
  }

  /** The entries come in both orders, as which came first must not tell. */
  private static void dueOfTwo(EntryTables one, EntryTables other, int[] loser, int[] winner) {
    comes(one, loser[0], loser[1], loser[2], loser[3], loser[4], 1);
    comes(one, winner[0], winner[1], winner[2], winner[3], winner[4], 2);
    dueMatch("the later", one, 2);
    comes(other, winner[0], winner[1], winner[2], winner[3], winner[4], 2);
    comes(other, loser[0], loser[1], loser[2], loser[3], loser[4], 1);
    dueMatch("the earlier", other, 2);
  }

  private static int[] entry(int a, int maskA, int b, int maskB, int priority) {
    return new int[] {a, maskA, b, maskB, priority};
  }

  private static void morePrefix() {
    for (int length = 0; length < 32; length++) {
      int shorter = (int) (-1L << (32 - length));
      int longer = (int) (-1L << (31 - length));
      test("of several that with more ones in the PREFIX mask, " + length + " and one more",
          () -> dueOfTwo(keyed(0, NONE, PREFIX), keyed(0, NONE, PREFIX),
              entry(0, shorter, 0, 0, MAX), entry(0, longer, 0, 0, MIN)));
    }
    test("of several that with more ones in the PREFIX mask: none and all",
        () -> dueOfTwo(keyed(1, NONE, PREFIX), keyed(1, NONE, PREFIX),
            entry(0, 0, 0, 0, MAX), entry(0, ALL, 0, 0, MIN)));
    test("of several that with more ones in the PREFIX mask: of f, the MASKED g does not count",
        () -> dueOfTwo(keyed(1, 2, PREFIX + 4 * MASKED), keyed(1, 2, PREFIX + 4 * MASKED),
            entry(0, 128, 0, 15, MAX), entry(0, 192, 0, 0, MIN)));
    test("of several that with more ones in the PREFIX mask: of g, the MASKED f does not count",
        () -> dueOfTwo(keyed(1, 2, MASKED + 4 * PREFIX), keyed(1, 2, MASKED + 4 * PREFIX),
            entry(0, 255, 0, 8, MAX), entry(0, 0, 0, 12, MIN)));
    test("of several that with more ones in the PREFIX mask: beside an EXACT f",
        () -> dueOfTwo(keyed(1, 2, EXACT + 4 * PREFIX), keyed(1, 2, EXACT + 4 * PREFIX),
            entry(0, 255, 0, 0, MAX), entry(0, 255, 0, 8, MIN)));
    test("of several that with more ones in the PREFIX mask: beside an EXACT g",
        () -> dueOfTwo(keyed(1, 2, PREFIX + 4 * EXACT), keyed(1, 2, PREFIX + 4 * EXACT),
            entry(0, 0, 0, 15, MAX), entry(0, 128, 0, 15, MIN)));
    test("of several that with more ones in the PREFIX mask: only of those that match", () -> {
      EntryTables x = keyed(1, NONE, PREFIX);
      for (int length = 0; length <= 8; length++) {
        comes(x, 0, -1 << (8 - length), 0, 0, -length, 1 + length);
      }
      dueMatch("all", x, 9);
      for (int bit = 0; bit < 8; bit++) {
        x.set(1, 1 << bit);
        dueMatch("bit " + bit, x, 8 - bit);
      }
    });
    test("of several: ones beyond the field are cut and do not count",
        () -> dueOfTwo(keyed(1, NONE, PREFIX), keyed(1, NONE, PREFIX),
            entry(0, -1 << 7, 0, 0, MAX), entry(0, 192, 0, 0, MIN)));
  }

  private static void greaterPriority() {
    int[] priorities = {MIN, MIN + 1, -2, -1, 0, 1, 2, MAX - 1, MAX};
    for (int i = 1; i < priorities.length; i++) {
      int less = priorities[i - 1];
      int greater = priorities[i];
      test("of these that of greater priority: " + less + ", " + greater, () -> {
        dueOfTwo(keyed(1, NONE, MASKED), keyed(1, NONE, MASKED),
            entry(0, 1, 0, 0, less), entry(0, 2, 0, 0, greater));
        dueOfTwo(keyed(1, 2, PREFIX + 4 * MASKED), keyed(1, 2, PREFIX + 4 * MASKED),
            entry(0, 192, 0, 1, less), entry(0, 192, 0, 2, greater));
        dueOfTwo(keyed(1, 2, MASKED + 4 * PREFIX), keyed(1, 2, MASKED + 4 * PREFIX),
            entry(0, 1, 0, 8, less), entry(0, 2, 0, 8, greater));
      });
    }
    test("of these that of greater priority: the lowest and the greatest",
        () -> dueOfTwo(keyed(1, NONE, MASKED), keyed(1, NONE, MASKED),
            entry(0, 1, 0, 0, MIN), entry(0, 2, 0, 0, MAX)));
    test("of these that of greater priority: ones of a MASKED mask do not count",
        () -> dueOfTwo(keyed(1, NONE, MASKED), keyed(1, NONE, MASKED),
            entry(0, 255, 0, 0, 3), entry(0, 0, 0, 0, 4)));
    test("of these that of greater priority: ones of two MASKED masks do not count",
        () -> dueOfTwo(keyed(1, 2, MASKED + 4 * MASKED), keyed(1, 2, MASKED + 4 * MASKED),
            entry(0, 255, 0, 15, 3), entry(0, 0, 0, 0, 4)));
    test("of these that of greater priority: ones of a MASKED mask beside an EXACT one do not count",
        () -> dueOfTwo(keyed(1, 2, EXACT + 4 * MASKED), keyed(1, 2, EXACT + 4 * MASKED),
            entry(0, 255, 0, 15, 3), entry(0, 255, 0, 0, 4)));
  }

  /** Of two that are alike, whichever way their masks are, the first. */
  private static void dueFirst(int f, int g, int how, int[] one, int[] other) {
    for (int[][] order : new int[][][] {{one, other}, {other, one}}) {
      EntryTables x = keyed(f, g, how);
      for (int i = 0; i < 2; i++) {
        int[] e = order[i];
        comes(x, e[0], e[1], e[2], e[3], e[4], 1 + i);
      }
      dueMatch("the first", x, 1);
    }
  }

  private static void cameFirst() {
    for (int priority : new int[] {MIN, -1, 0, 1, MAX}) {
      test("of these the one that came first: priority " + priority, () -> {
        dueFirst(1, NONE, MASKED, entry(0, 255, 0, 0, priority), entry(0, 0, 0, 0, priority));
        dueFirst(1, 2, MASKED + 4 * MASKED, entry(0, 1, 0, 15, priority), entry(0, 3, 0, 0, priority));
        dueFirst(1, 2, PREFIX + 4 * MASKED, entry(0, 192, 0, 15, priority), entry(0, 192, 0, 0, priority));
        dueFirst(1, 2, MASKED + 4 * PREFIX, entry(0, 255, 0, 8, priority), entry(0, 0, 0, 8, priority));
      });
    }
    test("of these the one that came first: of 20", () -> {
      EntryTables x = keyed(1, NONE, MASKED);
      for (int i = 0; i < 20; i++) {
        comes(x, 0, 20 - i, 0, 0, 7, i == 0 ? 1 : 2);
      }
      dueMatch("the first", x, 1);
    });
    test("of these the one that came first: it goes, then the next one is the first", () -> {
      EntryTables x = keyed(1, NONE, MASKED);
      for (int i = 1; i <= 5; i++) {
        comes(x, 0, i, 0, 0, 7, i);
      }
      for (int i = 1; i <= 5; i++) {
        dueMatch("the first", x, i);
        due("remove", remove(x, 0, 0, i), true);
      }
      dueMatch("none is left", x, NONE);
    });
    test("of these the one that came first: it goes and comes again as the last", () -> {
      EntryTables x = keyed(1, NONE, MASKED);
      comes(x, 0, 1, 0, 0, 7, 1);
      comes(x, 0, 2, 0, 0, 7, 2);
      comes(x, 0, 3, 0, 0, 7, 3);
      remove(x, 0, 0, 1);
      comes(x, 0, 1, 0, 0, 7, 4);
      dueMatch("the second", x, 2);
      remove(x, 0, 0, 2);
      dueMatch("the third", x, 3);
      remove(x, 0, 0, 3);
      dueMatch("it", x, 4);
    });
    test("of these the one that came first: one that goes from between leaves the order", () -> {
      EntryTables x = keyed(1, NONE, MASKED);
      for (int i = 1; i <= 4; i++) {
        comes(x, 0, i, 0, 0, 7, i);
      }
      remove(x, 0, 0, 2);
      remove(x, 0, 0, 1);
      comes(x, 0, 1, 0, 0, 7, 5);
      dueMatch("the third", x, 3);
      remove(x, 0, 0, 3);
      dueMatch("the fourth", x, 4);
    });
    test("of these the one that came first: a REFUSED one did not come", () -> {
      EntryTables x = keyed(1, NONE, MASKED);
      x.key(0, 1, 0, 0);
      due("its action is none", x.insert(0, 7, 16, 0, 0), false);
      comes(x, 0, 2, 0, 0, 7, 2);
      comes(x, 0, 1, 0, 0, 7, 1);
      dueMatch("the first", x, 2);
    });
    test("all three in their order", () -> {
      EntryTables x = keyed(1, 2, PREFIX + 4 * MASKED);
      comes(x, 0, 128, 0, 1, MAX, 1);
      comes(x, 0, 192, 0, 1, 3, 2);
      comes(x, 0, 192, 0, 2, 4, 3);
      comes(x, 0, 192, 0, 3, 4, 4);
      comes(x, 0, 192, 0, 4, 3, 5);
      comes(x, 0, 0, 0, 4, MAX, 6);
      dueMatch("PREFIX, priority, first", x, 3);
    });
    test("of several: the best is each of 20", () -> {
      for (int best = 0; best < 20; best++) {
        EntryTables x = keyed(1, NONE, MASKED);
        for (int i = 0; i < 20; i++) {
          comes(x, 0, i, 0, 0, i == best ? 1 : 0, i == best ? 2 : 1);
        }
        dueMatch("of 20 the one at " + best, x, 2);
      }
    });
  }

  private static void acts() {
    test("12 whether an entry MATCHED: an empty table", () -> {
      EntryTables x = keyed(1, NONE, MASKED);
      x.doing(0, 4, 0, 5, 0);
      due("act", x.act(0), false);
      due("what is done without a match", x.port(), 5);
    });
    test("12 the entry's action alone is done, not the one without a match", () -> {
      EntryTables x = keyed(1, NONE, MASKED);
      x.doing(0, 6, 0, 0, 0);
      comes(x, 0, 0, 0, 0, 0, 1);
      due("act", x.act(0), true);
      due("port", x.port(), 1001);
      due("drop", x.isDropped(), false);
    });
    test("12 one entry alone is done, of several that match", () -> {
      EntryTables x = keyed(1, NONE, MASKED);
      x.doing(1, 7, 0, 0, 1);
      x.doing(2, 7, 1, 0, 1);
      comes(x, 0, 1, 0, 0, 0, 1);
      comes(x, 0, 2, 0, 0, 0, 2);
      x.act(0);
      due("the first", x.word(0, 0), 1);
      due("the second", x.word(1, 0), 0);
    });
    test("12 the entry that matches the fields as they are ahead of it", () -> {
      EntryTables x = keyed(1, NONE, EXACT);
      x.doing(1, 0, 1, 9, 0);
      x.doing(1, 4, 0, 3, 0);
      comes(x, 5, ALL, 0, 0, 0, 1);
      x.set(1, 5);
      due("act", x.act(0), true);
      due("all its doings are done", x.port(), 3);
      due("the key is another", x.get(1), 9);
      due("so it matches no more", x.act(0), false);
    });
    for (int table : NO_NUMBER) {
      test("12 no such table: " + table, () -> {
        EntryTables x = ready();
        x.doing(0, 7, 0, 0, 1);
        for (int i = 0; i < 8; i++) {
          x.table(0, NONE, EXACT, 1, 0);
        }
        dueIndex("act", () -> x.act(table));
        due("nothing is done", x.word(0, 0), 0);
      });
    }
    test("12 no such table: the one behind the last", () -> {
      EntryTables x = ready();
      for (int i = 0; i < 8; i++) {
        int next = i;
        dueIndex("act", () -> x.act(next));
        x.table(0, NONE, EXACT, 1, 0);
        due("the last", x.act(i), false);
      }
      dueIndex("behind all", () -> x.act(8));
    });
    test("12 each of 8 tables does its own", () -> {
      EntryTables x = new EntryTables();
      x.field(8);
      for (int i = 0; i < 8; i++) {
        x.action();
        x.doing(i, 4, 0, 70 + i, 0);
      }
      for (int i = 0; i < 8; i++) {
        x.table(0, NONE, EXACT, 255, i);
        insert(x, i, i, ALL, 0, 7 - i);
      }
      for (int i = 0; i < 8; i++) {
        x.set(0, i);
        for (int table = 0; table < 8; table++) {
          due("act", x.act(table), table == i);
          due("port", x.port(), 70 + (table == i ? 7 - i : table));
        }
      }
    });
  }

  private static void matches() {
    test("13 NONE without one: the table is empty",
        () -> due("matches", keyed(1, NONE, MASKED).matches(0), NONE));
    test("13 NONE without one: none matches, whatever is done then", () -> {
      EntryTables x = keyed(1, NONE, EXACT);
      comes(x, 5, ALL, 0, 0, 0, 1);
      due("matches", x.matches(0), NONE);
    });
    test("13 which action: the first and the last", () -> {
      EntryTables x = keyed(1, NONE, EXACT);
      comes(x, 5, ALL, 0, 0, 0, 0);
      comes(x, 6, ALL, 0, 0, 0, 15);
      x.set(1, 5);
      due("0", x.matches(0), 0);
      x.set(1, 6);
      due("15", x.matches(0), 15);
    });
    test("13 NONE for no such table: there is none", () -> due("matches", ready().matches(0), NONE));
    for (int table : NO_NUMBER) {
      test("13 NONE for no such table: " + table, () -> {
        EntryTables x = ready();
        x.key(0, 0, 0, 0);
        for (int i = 0; i < 8; i++) {
          x.table(1, NONE, MASKED, 1, 0);
          x.insert(i, 0, 0, 0, 0);
        }
        due("matches", x.matches(table), NONE);
      });
    }
    test("13 NONE for no such table: the one behind the last", () -> {
      EntryTables x = ready();
      x.key(0, 0, 0, 0);
      for (int i = 0; i < 8; i++) {
        due("behind it", x.matches(i), NONE);
        x.table(1, NONE, MASKED, 1, 0);
        x.insert(i, 0, 0, 0, 0);
        due("the last", x.matches(i), 0);
      }
      due("behind all", x.matches(8), NONE);
    });
    test("13 would do: nothing is done", () -> {
      EntryTables x = keyed(1, NONE, MASKED);
      x.doing(1, 6, 0, 0, 0);
      x.doing(1, 7, 0, 1, 1);
      x.doing(1, 0, 1, 9, 0);
      comes(x, 0, 0, 0, 0, 0, 1);
      due("matches", x.matches(0), 1);
      due("port", x.port(), 0);
      due("drop", x.isDropped(), false);
      due("word", x.word(0, 0), 0);
      due("field", x.get(1), 0);
    });
    test("13 now: as the fields are", () -> {
      EntryTables x = keyed(1, NONE, EXACT);
      comes(x, 5, ALL, 0, 0, 0, 1);
      due("ahead", x.matches(0), NONE);
      x.set(1, 5);
      due("set", x.matches(0), 1);
      x.set(1, 6);
      due("behind", x.matches(0), NONE);
    });
  }

  public static void main(String[] args) {
    bits();
    twoKeys();
    morePrefix();
    greaterPriority();
    cameFirst();
    acts();
    matches();
    end();
  }
}
