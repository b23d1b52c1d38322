/** TABLES: their numbers, keys, how they are matched, their actions; promises 8 and 17. */
public final class TableBoundariesTest extends Due {
  private static final int EXACT = 0;
  private static final int PREFIX = 1;
  private static final int MASKED = 2;

  private static EntryTables eightTables() {
    EntryTables x = ready();
    for (int i = 0; i < 8; i++) {
      x.table(1, NONE, EXACT, 1, 0);
    }
    return x;
  }

  private static EntryTables sixteenActions() {
    EntryTables x = new EntryTables();
    x.field(8);
    for (int i = 0; i < 16; i++) {
      x.action();
    }
    return x;
  }

  private static void numbers() {
    test("TABLES 0 .. 7, the first", () -> due("table", ready().table(0, NONE, 0, 1, 0), 0));
    test("TABLES 0 .. 7, one after the other to the last", () -> {
      EntryTables x = ready();
      for (int i = 0; i < 8; i++) {
        due("table", x.table(0, NONE, 0, 1, 0), i);
      }
    });
    test("8 there are 8", () -> {
      EntryTables x = eightTables();
      dueState("table 8", () -> x.table(0, NONE, 0, 1, 0));
      dueState("and again", () -> x.table(0, 1, 6, 15, 3));
    });
    test("8 there are 8: the refused one did not come", () -> {
      EntryTables x = eightTables();
      insert(x, 7, 0, ALL, 0, 0);
      dueState("table 8", () -> x.table(0, NONE, 0, 1, 0));
      due("entries", x.entries(8), NONE);
      due("matches", x.matches(8), NONE);
      dueIndex("insert", () -> x.insert(8, 0, 0, 0, 0));
      dueIndex("remove", () -> x.remove(8));
      dueIndex("act", () -> x.act(8));
      due("entries of the last", x.entries(7), 1);
      due("what matches in it", x.matches(7), 0);
    });
    test("8 there are 8, again after clear()", () -> {
      EntryTables x = eightTables();
      x.clear();
      x.field(8);
      x.action();
      for (int i = 0; i < 8; i++) {
        due("table", x.table(0, NONE, 0, 1, 0), i);
      }
      dueState("table 8", () -> x.table(0, NONE, 0, 1, 0));
    });
    test("8 a refused table takes no number", () -> {
      EntryTables x = ready();
      dueIndex("fields", () -> x.table(4, NONE, 0, 1, 0));
      dueIndex("actions", () -> x.table(0, NONE, 0, 16, 0));
      dueArgument("how", () -> x.table(0, NONE, 3, 1, 0));
      due("entries", x.entries(0), NONE);
      due("the next one", x.table(0, NONE, 0, 1, 0), 0);
    });
    test("8 fields and actions ahead of how", () -> {
      dueIndex("f", () -> ready().table(4, 1, 3, 1, 0));
      dueIndex("g", () -> ready().table(0, 4, 12, 1, 0));
      dueIndex("f is g", () -> ready().table(1, 1, 5, 1, 0));
      dueIndex("actions", () -> ready().table(0, 1, 5, 17, 0));
      dueIndex("without a match", () -> ready().table(0, NONE, 4, 1, 1));
    });
    test("8 fields, actions and how ahead of the number", () -> {
      EntryTables x = eightTables();
      dueIndex("f", () -> x.table(4, 1, 0, 1, 0));
      dueIndex("actions", () -> x.table(0, 1, 0, 1, 1));
      dueArgument("how", () -> x.table(0, 1, 3, 1, 0));
      dueArgument("both by PREFIX", () -> x.table(0, 1, 5, 1, 0));
    });
  }

  private static void keys() {
    for (int field : new int[] {MIN, -16, -2, 4, 5, 16, 32, MAX}) {
      test("8 no such fields: " + field, () -> {
        dueIndex("f", () -> ready().table(field, 0, 0, 1, 0));
        dueIndex("f alone", () -> ready().table(field, NONE, 0, 1, 0));
        dueIndex("g", () -> ready().table(0, field, 0, 1, 0));
        dueIndex("both", () -> ready().table(field, field, 0, 1, 0));
      });
    }
    test("8 no such fields: f is never NONE", () -> {
      dueIndex("with g", () -> ready().table(NONE, 0, 0, 1, 0));
      dueIndex("alone", () -> ready().table(NONE, NONE, 0, 1, 0));
    });
    test("8 no such fields: there are none", () -> {
      EntryTables x = new EntryTables();
      x.action();
      dueIndex("f", () -> x.table(0, NONE, 0, 1, 0));
      x.field(8);
      dueIndex("g", () -> x.table(0, 1, 0, 1, 0));
      due("one is there", x.table(0, NONE, 0, 1, 0), 0);
      x.field(8);
      due("both are there", x.table(0, 1, 0, 1, 0), 1);
    });
    for (int f = 0; f < 4; f++) {
      int field = f;
      test("8 f is g: " + field, () -> {
        dueIndex("EXACT", () -> ready().table(field, field, 0, 1, 0));
        dueIndex("MASKED", () -> ready().table(field, field, 10, 1, 0));
      });
    }
    test("8 keys f, g: the first and the last field, either way", () -> {
      EntryTables x = ready();
      for (int i = 4; i < 16; i++) {
        x.field(i);
      }
      due("first and last", x.table(0, 15, 0, 1, 0), 0);
      due("last and first", x.table(15, 0, 0, 1, 0), 1);
      due("last alone", x.table(15, NONE, 0, 1, 0), 2);
      x.set(0, 7);
      x.set(15, 9);
      x.key(7, ALL, 9, ALL);
      x.insert(0, 0, 0, 0, 0);
      x.insert(1, 0, 0, 0, 0);
      x.key(9, ALL, 0, 0);
      x.insert(2, 0, 0, 0, 0);
      due("f is the first", x.matches(0), 0);
      due("f is the last", x.matches(1), NONE);
      due("the last is the only one", x.matches(2), 0);
    });
  }

  private static boolean isHow(int how, boolean withG) {
    for (int ofF = EXACT; ofF <= MASKED; ofF++) {
      for (int ofG = EXACT; ofG <= (withG ? MASKED : EXACT); ofG++) {
        if (how == ofF + 4 * ofG) {
          return ofF != PREFIX || ofG != PREFIX;
        }
      }
    }
    return false;
  }

  private static void dueHow(int how, int g) {
    EntryTables x = ready();
    if (isHow(how, g != NONE)) {
      due("table", x.table(0, g, how, 1, 0), 0);
    } else {
      dueArgument("table", () -> x.table(0, g, how, 1, 0));
      due("it did not come", x.entries(0), NONE);
    }
  }

  private static void hows() {
    for (int h = -20; h <= 40; h++) {
      int how = h;
      test("8 how, with g, " + how, () -> dueHow(how, 1));
      test("8 how, g is NONE, " + how, () -> dueHow(how, NONE));
    }
    for (int how : new int[] {MIN, MIN + 1, MIN + 2, MIN + 4, MAX, MAX - 1, 64, 66, 256, 1 << 30, -1 << 30}) {
      test("8 how is none, with g, " + how, () -> dueHow(how, 1));
      test("8 how is none, g is NONE, " + how, () -> dueHow(how, NONE));
    }
  }

  private static boolean isMask(int how, int mask) {
    return mask == 15 || (how == PREFIX && mask == 12) || how == MASKED;
  }

  /** All ones, a prefix, neither: which of them an entry may have tells how a key is matched. */
  private static void howsOfKeys() {
    int[] masks = {15, 12, 5};
    for (int h : new int[] {0, 1, 2, 4, 6, 8, 9, 10}) {
      test("8 how: of f " + (h & 3) + ", of g " + (h >> 2), () -> {
        for (int maskA : masks) {
          for (int maskB : masks) {
            EntryTables x = new EntryTables();
            x.field(4);
            x.field(4);
            x.action();
            x.table(0, 1, h, 1, 0);
            x.key(0, maskA, 0, maskB);
            boolean want = isMask(h & 3, maskA) && isMask(h >> 2, maskB);
            due("masks " + maskA + ", " + maskB, x.insert(0, 0, 0, 0, 0), want);
          }
        }
      });
    }
    for (int how = 0; how <= 2; how++) {
      int h = how;
      test("8 how: of the only key " + h, () -> {
        for (int mask : masks) {
          EntryTables x = new EntryTables();
          x.field(4);
          x.action();
          x.table(0, NONE, h, 1, 0);
          due("mask " + mask, insert(x, 0, 0, mask, 0, 0), isMask(h, mask));
        }
      });
    }
  }

  private static void actions() {
    test("8 actions that are not there: none are", () -> {
      EntryTables x = new EntryTables();
      x.field(8);
      dueIndex("table", () -> x.table(0, NONE, 0, 1, 0));
      dueIndex("no actions", () -> x.table(0, NONE, 0, 0, 0));
      dueIndex("no action without a match", () -> x.table(0, NONE, 0, 0, NONE));
    });
    test("8 actions as bits: up to the last that is there", () -> {
      EntryTables x = new EntryTables();
      x.field(8);
      for (int n = 1; n <= 16; n++) {
        x.action();
        int all = (1 << n) - 1;
        int beyond = 1 << n;
        dueIndex("the one behind " + n, () -> x.table(0, NONE, 0, beyond | 1, 0));
        if (n % 2 == 0) {
          int last = n - 1;
          due("all " + n, x.table(0, NONE, 0, all, last), n / 2 - 1);
        }
      }
    });
    for (int bit = 16; bit < 32; bit++) {
      int b = bit;
      test("8 actions that are not there: bit " + b, () -> {
        EntryTables x = sixteenActions();
        dueIndex("beside one", () -> x.table(0, NONE, 0, 1 << b | 1, 0));
        dueIndex("beside all", () -> x.table(0, NONE, 0, 1 << b | 65535, 15));
        dueIndex("alone", () -> x.table(0, NONE, 0, 1 << b, b));
      });
    }
    test("8 actions that are not there: all bits",
        () -> dueIndex("table", () -> sixteenActions().table(0, NONE, 0, -1, 0)));
    test("8 no actions", () -> {
      for (int i = 0; i < 16; i++) {
        int miss = i;
        dueIndex("table", () -> sixteenActions().table(0, NONE, 0, 0, miss));
      }
    });
  }

  private static void misses() {
    for (int i = 0; i < 16; i++) {
      int miss = i;
      test("8 the one without a match: " + miss, () -> {
        EntryTables x = sixteenActions();
        x.doing(miss, 4, 0, 100 + miss, 0);
        due("the only one", x.table(0, NONE, 0, 1 << miss, miss), 0);
        due("one of all", x.table(0, NONE, 0, 65535, miss), 1);
        dueIndex("not among the others", () -> x.table(0, NONE, 0, 65535 ^ 1 << miss, miss));
        x.act(0);
        due("it is done", x.port(), 100 + miss);
        x.table(0, NONE, 0, 65535, (miss + 1) % 16);
        x.act(2);
        due("another is not it", x.port(), 0);
      });
    }
    for (int miss : NO_NUMBER) {
      test("8 or not that one: " + miss,
          () -> dueIndex("table", () -> sixteenActions().table(0, NONE, 0, 65535, miss)));
    }
    test("8 or not that one: the one behind the last", () -> {
      dueIndex("4 of 4", () -> ready().table(0, NONE, 0, 15, 4));
      due("3 of 4", ready().table(0, NONE, 0, 15, 3), 0);
    });
  }

  private static void entries() {
    test("17 NONE for none such: there is none", () -> due("entries", new EntryTables().entries(0), NONE));
    test("17 NONE for none such: the one behind the last", () -> {
      EntryTables x = ready();
      for (int i = 0; i < 8; i++) {
        due("the one behind " + i, x.entries(i), NONE);
        x.table(0, NONE, 0, 1, 0);
        due("the last of " + i, x.entries(i), 0);
      }
      due("behind all", x.entries(8), NONE);
    });
    for (int table : NO_NUMBER) {
      test("17 NONE for none such: " + table, () -> due("entries", eightTables().entries(table), NONE));
    }
    test("17 entries, none to 20 and back to none", () -> {
      EntryTables x = eightTables();
      for (int i = 0; i < 20; i++) {
        due("up", x.entries(7), i);
        insert(x, 7, i, ALL, 0, 0);
      }
      for (int i = 20; i > 0; i--) {
        due("down", x.entries(7), i);
        remove(x, 7, i - 1, ALL);
      }
      due("none", x.entries(7), 0);
      due("of another", x.entries(6), 0);
    });
    test("8 a table comes without entries, where one was ahead of clear()", () -> {
      EntryTables x = eightTables();
      for (int i = 0; i < 20; i++) {
        insert(x, 0, i, ALL, 0, 0);
      }
      x.clear();
      x.field(8);
      x.action();
      x.table(0, NONE, EXACT, 1, 0);
      due("entries", x.entries(0), 0);
      due("matches", x.matches(0), NONE);
      due("act", x.act(0), false);
      due("remove", remove(x, 0, 0, ALL), false);
    });
    test("8 a table's keys are its own, where one was ahead of clear()", () -> {
      EntryTables x = ready();
      x.table(1, 2, MASKED + 4 * MASKED, 15, 3);
      x.clear();
      x.field(4);
      x.action();
      x.table(0, NONE, EXACT, 1, 0);
      due("it is EXACT", insert(x, 0, 3, 7, 0, 0), false);
      due("it has one key", insert(x, 0, 3, 15, 0, 0), true);
      due("it may do one action", insert(x, 0, 4, 15, 0, 1), false);
      x.set(0, 3);
      due("it is of 4 bits", x.matches(0), 0);
    });
  }

  public static void main(String[] args) {
    numbers();
    keys();
    hows();
    howsOfKeys();
    actions();
    misses();
    entries();
    end();
  }
}
