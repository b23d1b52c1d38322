/** ENTRIES: their values and masks, which are REFUSED, how they come and go; promises 9, 10 and 11. */
public final class EntryBoundariesTest extends Due {
  private static final int EXACT = 0;
  private static final int PREFIX = 1;
  private static final int MASKED = 2;

  /** One field of a width, two actions, one table that may do both. */
  private static EntryTables one(int width, int how) {
    EntryTables x = new EntryTables();
    x.field(width);
    x.action();
    x.action();
    x.table(0, NONE, how, 3, 0);
    return x;
  }

  /** Two fields of 8 and 4 bits, two actions, one table that may do both. */
  private static EntryTables two(int howF, int howG) {
    EntryTables x = new EntryTables();
    x.field(8);
    x.field(4);
    x.action();
    x.action();
    x.table(0, 1, howF + 4 * howG, 3, 0);
    return x;
  }

  private static boolean comes(EntryTables x, int a, int maskA, int b, int maskB) {
    x.key(a, maskA, b, maskB);
    return x.insert(0, 0, 1, 0, 0);
  }

  private static boolean goes(EntryTables x, int a, int maskA, int b, int maskB) {
    x.key(a, maskA, b, maskB);
    return x.remove(0);
  }

  private static int matching(EntryTables x, int word) {
    x.set(0, word);
    return x.matches(0);
  }

  private static int onesOf(int width) {
    return -1 >>> (32 - width);
  }

  /** A new object for each mask, as a table has 20 entries at most. */
  private static void dueMask(int width, int how, int mask, boolean want) {
    EntryTables x = one(width, how);
    due("mask " + Integer.toBinaryString(mask), insert(x, 0, 0, mask, 0, 1), want);
    due("entries", x.entries(0), want ? 1 : 0);
  }

  private static void exactMasks(int width) {
    int ones = onesOf(width);
    test("all ones if EXACT, of " + width, () -> dueMask(width, EXACT, ones, true));
    test("all ones if EXACT, of " + width + ", and more, cut to the field",
        () -> dueMask(width, EXACT, ALL, true));
    test("all ones if EXACT, of " + width + ": one is not there", () -> {
      for (int bit = 0; bit < width; bit++) {
        dueMask(width, EXACT, ones ^ 1 << bit, false);
        dueMask(width, EXACT, ALL ^ 1 << bit, false);
      }
    });
    test("all ones if EXACT, of " + width + ": none is there", () -> dueMask(width, EXACT, 0, false));
  }

  private static void prefixMasks(int width) {
    int ones = onesOf(width);
    test("ones from the top, then none, of " + width, () -> {
      for (int length = 0; length <= width; length++) {
        int rest = (int) ((1L << (width - length)) - 1);
        dueMask(width, PREFIX, ones ^ rest, true);
        dueMask(width, PREFIX, ~rest, true);
      }
    });
    test("ones from the top, then none, of " + width + ": not from the top", () -> {
      for (int length = 1; length < width; length++) {
        dueMask(width, PREFIX, onesOf(length), false);
      }
      for (int bit = 0; bit < width - 1; bit++) {
        dueMask(width, PREFIX, 1 << bit, false);
      }
    });
    test("ones from the top, then none, of " + width + ": a gap", () -> {
      for (int bit = 0; bit < width; bit++) {
        dueMask(width, PREFIX, ones ^ 1 << bit, bit == 0);
      }
      for (int bit = 0; bit < width - 2; bit++) {
        dueMask(width, PREFIX, 1 << (width - 1) | 1 << bit, false);
      }
    });
  }

  private static void masks() {
    for (int width = 1; width <= 32; width++) {
      int w = width;
      exactMasks(w);
      prefixMasks(w);
      test("any mask if MASKED, of " + w, () -> {
        for (int mask : new int[] {0, 1, ALL, 0x55555555, 0xAAAAAAAA, 0x0FF0, MIN, MAX, onesOf(w)}) {
          dueMask(w, MASKED, mask, true);
        }
      });
    }
    test("a mask that is only beyond the field is none", () -> {
      dueMask(8, EXACT, 256, false);
      dueMask(8, PREFIX, 256, true);
      due("by PREFIX: all words match", matching(withMask(PREFIX, 256), 77), 1);
      due("MASKED: all words match", matching(withMask(MASKED, 256), 77), 1);
    });
  }

  private static EntryTables withMask(int how, int mask) {
    EntryTables x = one(8, how);
    insert(x, 0, 0, mask, 0, 1);
    return x;
  }

  private static void values() {
    test("a value is cut to the field", () -> {
      EntryTables x = one(8, EXACT);
      due("insert", insert(x, 0, 256 + 5, ALL, 0, 1), true);
      due("it matches", matching(x, 5), 1);
      due("it is the same", insert(x, 0, 5, 255, 0, 1), false);
      due("it is the one that goes", remove(x, 0, -256 + 5, ALL), true);
    });
    test("a value counts only where the mask has ones", () -> {
      EntryTables x = one(8, MASKED);
      due("insert", insert(x, 0, ALL, 0x3C, 0, 1), true);
      due("it matches", matching(x, 0x3C), 1);
      due("whatever is beside it", matching(x, 0xFF), 1);
      due("but not without it", matching(x, 0x1C), NONE);
      due("it is the same", insert(x, 0, 0x3C, 0x3C, 0, 1), false);
      due("it is the one that goes", remove(x, 0, 0x7D, 0x3C), true);
    });
    test("a value counts only where the mask has ones: it has none", () -> {
      EntryTables x = one(8, MASKED);
      due("insert", insert(x, 0, ALL, 0, 0, 1), true);
      due("0 matches", matching(x, 0), 1);
      due("all ones match", matching(x, ALL), 1);
      due("all values are the same", insert(x, 0, 7, 0, 0, 1), false);
      due("each is the one that goes", remove(x, 0, 9, 0), true);
    });
    test("the value and mask of g are cut to g, those of f to f", () -> {
      EntryTables x = two(MASKED, MASKED);
      due("insert", comes(x, 0xFF0, 0xFF0, 0xFF8, 0xFF8), true);
      due("the same", comes(x, 0xF0, 0xF0, 8, 8), false);
      due("f has 8 bits", comes(x, 0x70, 0xF0, 8, 8), true);
      due("g has 4 bits", comes(x, 0x70, 0xF0, 16 + 8, 16 + 8), false);
    });
    test("32 bits of a value count", () -> {
      EntryTables x = one(32, EXACT);
      insert(x, 0, MIN, ALL, 0, 1);
      due("the top bit", matching(x, MIN), 1);
      due("not without it", matching(x, 0), NONE);
      due("another value", insert(x, 0, 0, ALL, 0, 0), true);
    });
  }

  private static void actions() {
    for (int action : NO_NUMBER) {
      test("REFUSED if its action is none: " + action, () -> {
        EntryTables x = one(8, MASKED);
        x.key(1, 1, 0, 0);
        due("insert", x.insert(0, 0, action, 0, 0), false);
        due("entries", x.entries(0), 0);
        due("matches", matching(x, 1), NONE);
      });
    }
    test("REFUSED if its action is none: the one behind the last", () -> {
      EntryTables x = one(8, MASKED);
      due("behind it", insert(x, 0, 1, 1, 0, 2), false);
      due("the last", insert(x, 0, 1, 1, 0, 1), true);
      due("the first", insert(x, 0, 0, 1, 0, 0), true);
    });
    for (int a = 0; a < 16; a++) {
      int action = a;
      test("REFUSED if its action is none of those that the table may do: " + action, () -> {
        EntryTables x = new EntryTables();
        x.field(8);
        for (int i = 0; i < 16; i++) {
          x.action();
        }
        x.table(0, NONE, MASKED, 65535 ^ 1 << action, action == 0 ? 1 : 0);
        x.table(0, NONE, MASKED, 1 << action, action);
        for (int i = 0; i < 16; i++) {
          due("all but it", insert(x, 0, i, ALL, 0, i), i != action);
          due("it alone", insert(x, 1, i, ALL, 0, i), i == action);
        }
      });
    }
    test("REFUSED if its action came behind the table", () -> {
      EntryTables x = one(8, MASKED);
      due("action", x.action(), 2);
      due("insert", insert(x, 0, 1, 1, 0, 2), false);
    });
    test("an entry may do what is done without a match", () -> {
      EntryTables x = one(8, MASKED);
      due("insert", insert(x, 0, 1, 1, 0, 0), true);
      due("matches", matching(x, 1), 0);
      due("act", x.act(0), true);
      x.set(0, 2);
      due("act without a match", x.act(0), false);
    });
  }

  private static void masksOfTwo() {
    test("REFUSED if its masks are none: of f, of g, of both", () -> {
      EntryTables x = two(EXACT, EXACT);
      due("of f", comes(x, 1, 254, 1, 15), false);
      due("of g", comes(x, 1, 255, 1, 14), false);
      due("of both", comes(x, 1, 254, 1, 14), false);
      due("entries", x.entries(0), 0);
      due("of neither", comes(x, 1, 255, 1, 15), true);
    });
    test("REFUSED if its masks are none: f by PREFIX", () -> {
      EntryTables x = two(PREFIX, EXACT);
      due("of f", comes(x, 1, 127, 1, 15), false);
      due("of g", comes(x, 1, 128, 1, 8), false);
      due("of neither", comes(x, 1, 128, 1, 15), true);
      due("no ones of f", comes(x, 1, 0, 1, 15), true);
    });
    test("REFUSED if its masks are none: g by PREFIX", () -> {
      EntryTables x = two(EXACT, PREFIX);
      due("of f", comes(x, 1, 128, 1, 8), false);
      due("of g", comes(x, 1, 255, 1, 7), false);
      due("of neither", comes(x, 1, 255, 1, 8), true);
      due("no ones of g", comes(x, 1, 255, 1, 0), true);
    });
    test("9 those of g count only if there is one", () -> {
      EntryTables x = one(8, EXACT);
      due("a mask that would be none", comes(x, 5, ALL, 3, 1), true);
      due("the same with another g", comes(x, 5, ALL, 4, 2), false);
      due("the same with no g", comes(x, 5, ALL, 0, 0), false);
      due("it matches", matching(x, 5), 1);
      due("another g is the one that goes", goes(x, 5, ALL, 9, 9), true);
      due("entries", x.entries(0), 0);
    });
    test("9 those of g count if there is one", () -> {
      EntryTables x = two(EXACT, EXACT);
      due("insert", comes(x, 5, ALL, 3, ALL), true);
      due("another g", comes(x, 5, ALL, 4, ALL), true);
      due("none goes with a third", goes(x, 5, ALL, 5, ALL), false);
      due("the first goes", goes(x, 5, ALL, 3, ALL), true);
      x.set(0, 5);
      x.set(1, 4);
      due("the other stays", x.matches(0), 1);
      x.set(1, 3);
      due("the first is gone", x.matches(0), NONE);
    });
  }

  private static void sames() {
    test("REFUSED if one with the same values and masks is there, with all else other", () -> {
      EntryTables x = one(8, MASKED);
      x.doing(1, 5, 0, 0, 0);
      x.key(5, 7, 0, 0);
      due("insert", x.insert(0, 4, 1, 10, 11), true);
      due("the same", x.insert(0, 4, 1, 10, 11), false);
      due("another priority", x.insert(0, 5, 1, 10, 11), false);
      due("another action", x.insert(0, 4, 0, 10, 11), false);
      due("other data", x.insert(0, 4, 1, 20, 21), false);
      due("all else other", x.insert(0, MAX, 0, 20, 21), false);
      due("entries", x.entries(0), 1);
      x.set(0, 13);
      due("act", x.act(0), true);
      due("its data stay", x.port(), 10);
      insert(x, 0, 5, 5, 5, 0);
      due("its priority stays", x.matches(0), 0);
    });
    test("not REFUSED if just the values, or just the masks, are the same", () -> {
      EntryTables x = one(8, MASKED);
      due("insert", insert(x, 0, 4, 4, 0, 1), true);
      due("another mask", insert(x, 0, 4, 6, 0, 1), true);
      due("another value", insert(x, 0, 6, 6, 0, 1), true);
      due("no value", insert(x, 0, 0, 4, 0, 1), true);
      due("entries", x.entries(0), 4);
    });
    test("not REFUSED if just one of two keys is the same", () -> {
      EntryTables x = two(MASKED, MASKED);
      due("insert", comes(x, 1, 1, 2, 2), true);
      due("the same", comes(x, 1, 1, 2, 2), false);
      due("another value of f", comes(x, 0, 1, 2, 2), true);
      due("another mask of f", comes(x, 1, 3, 2, 2), true);
      due("another value of g", comes(x, 1, 1, 0, 2), true);
      due("another mask of g", comes(x, 1, 1, 2, 3), true);
      due("f and g the other way round", comes(x, 2, 2, 1, 1), true);
    });
    test("not REFUSED if one with the same values and masks is in another table", () -> {
      EntryTables x = one(8, MASKED);
      x.table(0, NONE, MASKED, 3, 0);
      x.key(4, 4, 0, 0);
      due("the one", x.insert(0, 0, 1, 0, 0), true);
      due("the other", x.insert(1, 0, 1, 0, 0), true);
      due("not twice", x.insert(1, 0, 1, 0, 0), false);
    });
    test("the first, one between and the last of 20 are there", () -> {
      EntryTables x = one(8, EXACT);
      for (int i = 0; i < 19; i++) {
        insert(x, 0, i, ALL, 0, 1);
      }
      due("the first", insert(x, 0, 0, ALL, 0, 1), false);
      due("one between", insert(x, 0, 9, ALL, 0, 1), false);
      due("the last", insert(x, 0, 18, ALL, 0, 1), false);
      due("entries", x.entries(0), 19);
    });
  }

  private static EntryTables twenty() {
    EntryTables x = one(8, EXACT);
    for (int i = 0; i < 20; i++) {
      due("entry " + i, insert(x, 0, i, ALL, 0, 1), true);
    }
    return x;
  }

  private static void atMostTwenty() {
    test("REFUSED if 20 are: the 20th comes", () -> {
      EntryTables x = twenty();
      due("entries", x.entries(0), 20);
      due("the first matches", matching(x, 0), 1);
      due("the last matches", matching(x, 19), 1);
    });
    test("REFUSED if 20 are: the 21st does not", () -> {
      EntryTables x = twenty();
      due("insert", insert(x, 0, 20, ALL, 0, 1), false);
      due("of the greatest priority", insert(x, 0, 21, ALL, MAX, 1), false);
      due("entries", x.entries(0), 20);
      due("it does not match", matching(x, 20), NONE);
      due("the last is there yet", matching(x, 19), 1);
    });
    test("REFUSED if 20 are: one goes, one comes, but no other", () -> {
      for (int gone : new int[] {0, 1, 10, 18, 19}) {
        EntryTables x = twenty();
        due("it goes", remove(x, 0, gone, ALL), true);
        due("entries", x.entries(0), 19);
        due("one comes", insert(x, 0, 99, ALL, 0, 0), true);
        due("another does not", insert(x, 0, 98, ALL, 0, 0), false);
        for (int i = 0; i < 20; i++) {
          due("entry " + i + " of those without " + gone, matching(x, i), i == gone ? NONE : 1);
        }
        due("the new one", matching(x, 99), 0);
      }
    });
    test("REFUSED if 20 are: another table's do not count", () -> {
      EntryTables x = twenty();
      x.table(0, NONE, EXACT, 3, 0);
      for (int i = 0; i < 21; i++) {
        due("entry " + i, insert(x, 1, i, ALL, 0, 1), i < 20);
      }
      due("all of it", x.entries(1), 20);
    });
    test("REFUSED ones do not count among the 20", () -> {
      EntryTables x = one(8, EXACT);
      for (int i = 0; i < 20; i++) {
        due("mask", insert(x, 0, i, 254, 0, 1), false);
        due("action", insert(x, 0, i, ALL, 0, 2), false);
        due("insert", insert(x, 0, i, ALL, 0, 1), true);
        due("the same", insert(x, 0, i, ALL, 0, 1), false);
      }
      due("entries", x.entries(0), 20);
    });
    test("all 20 go, and 20 come again", () -> {
      EntryTables x = twenty();
      for (int i = 19; i >= 0; i--) {
        due("it goes", remove(x, 0, i, ALL), true);
      }
      due("none are there", x.entries(0), 0);
      due("none matches", matching(x, 0), NONE);
      for (int i = 0; i < 21; i++) {
        due("it comes", insert(x, 0, 100 + i, ALL, 0, 0), i < 20);
      }
      due("the old one", matching(x, 0), NONE);
      due("the new one", matching(x, 119), 0);
    });
  }

  private static void goers() {
    test("one that goes is REFUSED if there is none: the table is empty", () -> {
      EntryTables x = one(8, MASKED);
      due("remove", remove(x, 0, 1, 1), false);
      due("of no ones", remove(x, 0, 0, 0), false);
      due("entries", x.entries(0), 0);
    });
    test("one that goes is REFUSED if there is none: another value or mask", () -> {
      EntryTables x = one(8, MASKED);
      insert(x, 0, 4, 6, 0, 1);
      due("another value", remove(x, 0, 6, 6), false);
      due("another mask", remove(x, 0, 4, 4), false);
      due("more mask", remove(x, 0, 4, 7), false);
      due("entries", x.entries(0), 1);
      due("it matches yet", matching(x, 4), 1);
    });
    test("one that goes is REFUSED if there is none: it went", () -> {
      EntryTables x = one(8, MASKED);
      insert(x, 0, 4, 6, 0, 1);
      due("remove", remove(x, 0, 4, 6), true);
      due("again", x.remove(0), false);
      due("entries", x.entries(0), 0);
      due("it does not match", matching(x, 4), NONE);
    });
    test("one that goes is REFUSED if there is none: it was REFUSED", () -> {
      EntryTables x = one(8, EXACT);
      due("insert", insert(x, 0, 4, 254, 0, 1), false);
      due("remove", x.remove(0), false);
      due("insert", insert(x, 0, 4, 255, 0, 2), false);
      due("remove", x.remove(0), false);
    });
    test("one that goes is REFUSED if there is none: masks that are none", () -> {
      EntryTables x = one(8, PREFIX);
      insert(x, 0, 128, 128, 0, 1);
      due("a gap", remove(x, 0, 128, 129), false);
      due("not from the top", remove(x, 0, 1, 1), false);
      due("entries", x.entries(0), 1);
    });
    test("one that goes is REFUSED if there is none: it is in another table", () -> {
      EntryTables x = one(8, MASKED);
      x.table(0, NONE, MASKED, 3, 0);
      insert(x, 0, 4, 6, 0, 1);
      due("the other", x.remove(1), false);
      due("entries", x.entries(0), 1);
      due("the one", x.remove(0), true);
    });
    test("one goes and comes again", () -> {
      EntryTables x = one(8, MASKED);
      x.key(4, 6, 0, 0);
      for (int i = 0; i < 25; i++) {
        due("insert", x.insert(0, i, i % 2, 0, 0), true);
        due("matches", matching(x, 4), i % 2);
        due("remove", x.remove(0), true);
      }
      due("entries", x.entries(0), 0);
    });
    test("one that goes leaves the data, priority and action of the others", () -> {
      EntryTables x = one(8, MASKED);
      x.doing(1, 5, 0, 0, 0);
      x.doing(1, 3, 0, 1, 0);
      for (int i = 0; i < 4; i++) {
        x.key(i, 3, 0, 0);
        x.insert(0, 7 - i, 1, 40 + i, 50 + i);
      }
      due("remove", remove(x, 0, 1, 3), true);
      for (int i = 0; i < 4; i++) {
        x.set(0, i);
        due("act " + i, x.act(0), i != 1);
        due("port " + i, x.port(), i == 1 ? 0 : 40 + i);
        due("get " + i, x.get(0), i == 1 ? 1 : 50 + i);
      }
      insert(x, 0, 3, 7, 5, 0);
      due("its priority is less", matching(x, 3), 0);
    });
  }

  private static void keys() {
    test("9 they stay: over entries that come and go, and all other calls", () -> {
      EntryTables x = one(8, MASKED);
      x.table(0, NONE, MASKED, 3, 0);
      x.key(4, 6, 0, 0);
      due("it comes", x.insert(0, 0, 1, 0, 0), true);
      due("it comes to the next table", x.insert(1, 0, 1, 0, 0), true);
      due("it does not come again", x.insert(1, 0, 1, 0, 0), false);
      due("it goes", x.remove(1), true);
      due("it is gone", x.remove(1), false);
      x.field(3);
      x.action();
      x.set(0, 4);
      x.doing(0, 0, 0, 9, 0);
      x.table(0, NONE, MASKED, 3, 0);
      due("act", x.act(0), true);
      due("act without a match", x.act(1), false);
      dueIndex("one that throws", () -> x.insert(3, 0, 1, 0, 0));
      due("it comes to the last table", x.insert(2, 0, 1, 0, 0), true);
      due("it goes from the first", x.remove(0), true);
      due("it matches in the last", matching(x, 4), NONE);
      due("with its value", x.matches(2), 1);
    });
    test("9 the latest key() counts", () -> {
      EntryTables x = one(8, MASKED);
      x.key(4, 6, 0, 0);
      x.key(1, 1, 0, 0);
      due("insert", x.insert(0, 0, 1, 0, 0), true);
      due("it is the later one", matching(x, 1), 1);
      due("not the earlier one", matching(x, 4), NONE);
      due("the earlier one is not there", remove(x, 0, 4, 6), false);
    });
    test("9 key() leaves the entries that are there", () -> {
      EntryTables x = one(8, MASKED);
      insert(x, 0, 4, 6, 0, 1);
      x.key(1, 1, 0, 0);
      due("entries", x.entries(0), 1);
      due("it matches as it came", matching(x, 4), 1);
      due("and not as key() says", matching(x, 1), NONE);
    });
    test("9 they stay uncut for the next table", () -> {
      EntryTables x = new EntryTables();
      x.field(4);
      x.field(32);
      x.action();
      x.action();
      x.table(0, NONE, MASKED, 3, 0);
      x.table(1, NONE, MASKED, 3, 0);
      x.key(0x12345678, 0x0FFFFFFF, 0, 0);
      due("of 4 bits", x.insert(0, 0, 1, 0, 0), true);
      due("of 32 bits", x.insert(1, 0, 1, 0, 0), true);
      x.set(0, 8);
      x.set(1, 0x12345678);
      due("4 bits", x.matches(0), 1);
      due("32 bits", x.matches(1), 1);
      x.set(1, 8);
      due("32 bits, not just 4 of them", x.matches(1), NONE);
    });
    test("9 no key() yet: no values, no masks", () -> {
      EntryTables x = one(8, MASKED);
      due("insert", x.insert(0, 0, 1, 0, 0), true);
      due("all words match", matching(x, ALL), 1);
      due("not all ones", one(8, EXACT).insert(0, 0, 1, 0, 0), false);
    });
    test("2 no key() yet after clear()", () -> {
      EntryTables x = two(EXACT, EXACT);
      x.key(77, ALL, 7, ALL);
      x.clear();
      x.field(8);
      x.field(4);
      x.action();
      x.table(0, 1, EXACT + 4 * MASKED, 1, 0);
      x.table(0, 1, MASKED + 4 * EXACT, 1, 0);
      x.table(0, 1, MASKED + 4 * MASKED, 1, 0);
      due("the mask of f", x.insert(0, 0, 0, 0, 0), false);
      due("the mask of g", x.insert(1, 0, 0, 0, 0), false);
      due("both", x.insert(2, 0, 0, 0, 0), true);
      due("words of no ones match", x.matches(2), 0);
      x.set(0, ALL);
      x.set(1, ALL);
      due("words of all ones match", x.matches(2), 0);
    });
  }

  private static void tables() {
    for (int table : NO_NUMBER) {
      test("10, 11 no such table: " + table, () -> {
        EntryTables x = ready();
        for (int i = 0; i < 8; i++) {
          x.table(1, NONE, MASKED, 1, 0);
        }
        x.key(0, 0, 0, 0);
        dueIndex("insert", () -> x.insert(table, 0, 0, 0, 0));
        for (int i = 0; i < 8; i++) {
          due("none came", x.entries(i), 0);
          x.insert(i, 0, 0, 0, 0);
        }
        dueIndex("remove", () -> x.remove(table));
        for (int i = 0; i < 8; i++) {
          due("none went", x.entries(i), 1);
        }
      });
    }
    test("10, 11 no such table: the one behind the last", () -> {
      EntryTables x = ready();
      x.key(0, 0, 0, 0);
      for (int i = 0; i < 8; i++) {
        int next = i;
        dueIndex("insert", () -> x.insert(next, 0, 0, 0, 0));
        dueIndex("remove", () -> x.remove(next));
        x.table(1, NONE, MASKED, 1, 0);
        due("insert into the last", x.insert(i, 0, 0, 0, 0), true);
        due("remove from the last", x.remove(i), true);
      }
      dueIndex("insert behind all", () -> x.insert(8, 0, 0, 0, 0));
      dueIndex("remove behind all", () -> x.remove(8));
    });
    test("10, 11 no such table goes ahead of REFUSED", () -> {
      EntryTables x = one(8, EXACT);
      x.key(1, 2, 3, 4);
      dueIndex("insert", () -> x.insert(1, 0, -1, 0, 0));
      dueIndex("remove", () -> x.remove(1));
    });
    test("10, 11 no such table: one that was ahead of clear()", () -> {
      EntryTables x = one(8, MASKED);
      x.clear();
      dueIndex("insert", () -> x.insert(0, 0, 0, 0, 0));
      dueIndex("remove", () -> x.remove(0));
    });
  }

  public static void main(String[] args) {
    masks();
    values();
    actions();
    masksOfTwo();
    sames();
    atMostTwenty();
    goers();
    keys();
    tables();
    end();
  }
}
