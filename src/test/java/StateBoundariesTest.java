import java.util.function.Consumer;

/** The object as a whole: new, cleared, after calls that are refused, to its last call; promises 1 and 2. */
public final class StateBoundariesTest extends Due {
  private static final int EXACT = 0;
  private static final int MASKED = 2;

  /** All that can be asked without a change, in 101 calls. */
  private static String state(EntryTables x) {
    StringBuilder all = new StringBuilder();
    for (int i = 0; i <= 16; i++) {
      all.append(" get ").append(x.get(i));
    }
    for (int i = 0; i <= 8; i++) {
      all.append(" entries ").append(x.entries(i)).append(" matches ").append(x.matches(i));
    }
    for (int array = 0; array < 4; array++) {
      for (int i = 0; i < 16; i++) {
        all.append(" word ").append(x.word(array, i));
      }
    }
    return all.append(" port ").append(x.port()).append(" drop ").append(x.isDropped()).toString();
  }

  /** All of it is there: two tables with an entry each, an act() that matched, words, a port, a drop. */
  private static EntryTables used() {
    EntryTables x = ready();
    give(x, 1, d(4, 0, 7, 0), d(6, 0, 0, 0), d(7, 1, 1, 5), d(2, 0, 1, 1));
    give(x, 2, d(8, 0, 1, 1));
    x.table(1, NONE, EXACT, 15, 2);
    x.table(1, 2, MASKED + 4 * MASKED, 15, 0);
    x.set(0, -9);
    x.set(1, 200);
    x.set(2, 3);
    x.key(200, ALL, 3, 3);
    x.insert(0, 5, 1, 11, 12);
    x.insert(1, 5, 1, 11, 12);
    x.act(0);
    return x;
  }

  private static EntryTables full() {
    EntryTables x = new EntryTables();
    for (int i = 0; i < 16; i++) {
      x.field(8);
      x.set(i, 100 + i);
      x.action();
    }
    for (int i = 0; i < 4; i++) {
      x.doing(15, 7, i, 15, 9);
    }
    for (int i = 0; i < 8; i++) {
      x.table(15, NONE, EXACT, 65535, 15);
    }
    for (int i = 0; i < 20; i++) {
      insert(x, 7, 110 + i, ALL, 0, 15);
    }
    x.act(7);
    return x;
  }

  /** What is asked of an object where nothing is there. */
  private static void dueNothing(EntryTables x) {
    for (int i : new int[] {MIN, -1, 0, 1, 7, 8, 15, 16, MAX}) {
      due("get " + i, x.get(i), 0);
      due("matches " + i, x.matches(i), NONE);
      due("entries " + i, x.entries(i), NONE);
      dueIndex("set " + i, () -> x.set(i, 1));
      dueIndex("doing " + i, () -> x.doing(i, 6, 0, 0, 0));
      dueIndex("table " + i, () -> x.table(i, NONE, 0, 1, 0));
      dueIndex("insert " + i, () -> x.insert(i, 0, 0, 0, 0));
      dueIndex("remove " + i, () -> x.remove(i));
      dueIndex("act " + i, () -> x.act(i));
    }
    for (int array = 0; array < 4; array++) {
      for (int i = 0; i < 16; i++) {
        due("word " + array + ", " + i, x.word(array, i), 0);
      }
    }
    due("port", x.port(), 0);
    due("drop", x.isDropped(), false);
  }

  private static void dueFirstNumbers(EntryTables x) {
    due("field", x.field(8), 0);
    due("its word", x.get(0), 0);
    due("action", x.action(), 0);
    due("table", x.table(0, NONE, MASKED, 1, 0), 0);
    due("its entries", x.entries(0), 0);
    due("it matches none", x.matches(0), NONE);
    due("no key() yet", x.insert(0, 0, 0, 0, 0), true);
    x.set(0, ALL);
    due("all words match", x.matches(0), 0);
    due("act", x.act(0), true);
    due("no DOINGS yet: port", x.port(), 0);
    due("no DOINGS yet: drop", x.isDropped(), false);
    due("no DOINGS yet: field", x.get(0), 255);
    due("no DOINGS yet: word", x.word(0, 15), 0);
  }

  private static void news() {
    test("the constant NONE", () -> due("NONE", EntryTables.NONE, -1));
    test("1 nothing is there", () -> dueNothing(new EntryTables()));
    test("1 all that comes is the first", () -> dueFirstNumbers(new EntryTables()));
    test("1 an object has nothing of another", () -> {
      EntryTables x = new EntryTables();
      used();
      full();
      dueNothing(x);
      dueFirstNumbers(x);
    });
    test("1 an object is not changed by another", () -> {
      EntryTables x = used();
      String ahead = state(x);
      full().clear();
      used().remove(0);
      due("as it was", state(x).equals(ahead), true);
    });
  }

  private static void clears() {
    test("2 clear() of a new object", () -> {
      EntryTables x = new EntryTables();
      x.clear();
      dueNothing(x);
      dueFirstNumbers(x);
    });
    test("2 clear() of a used object: nothing is there", () -> {
      EntryTables x = used();
      x.clear();
      dueNothing(x);
    });
    test("2 clear() of a used object: all that comes is the first", () -> {
      EntryTables x = used();
      x.clear();
      dueFirstNumbers(x);
    });
    test("2 clear() of a full object: nothing is there", () -> {
      EntryTables x = full();
      due("it is full", x.entries(7), 20);
      due("it acted", x.word(3, 115 % 16), 9);
      x.clear();
      dueNothing(x);
    });
    test("2 clear() of a full object: all that comes is the first", () -> {
      EntryTables x = full();
      x.clear();
      dueFirstNumbers(x);
    });
    test("2 clear() twice, and once more when it is used again", () -> {
      EntryTables x = used();
      x.clear();
      x.clear();
      dueFirstNumbers(x);
      x.clear();
      dueNothing(x);
    });
    test("2 clear(): as full again as at first", () -> {
      EntryTables x = full();
      x.clear();
      for (int i = 0; i < 16; i++) {
        due("field", x.field(8), i);
        due("action", x.action(), i);
      }
      dueState("field 16", () -> x.field(8));
      dueState("action 16", x::action);
      for (int i = 0; i < 4; i++) {
        x.doing(15, 6, 0, 0, 0);
      }
      dueState("a fifth", () -> x.doing(15, 6, 0, 0, 0));
      for (int i = 0; i < 8; i++) {
        due("table", x.table(15, NONE, EXACT, 65535, 15), i);
      }
      dueState("table 8", () -> x.table(15, NONE, EXACT, 65535, 15));
      for (int i = 0; i < 21; i++) {
        due("entry " + i, insert(x, 7, i, ALL, 0, 15), i < 20);
      }
    });
  }

  private static void dueUnchanged(String name, EntryTables x, Consumer<EntryTables> call) {
    test("nothing changes: " + name, () -> {
      String ahead = state(x);
      call.accept(x);
      String behind = state(x);
      if (!behind.equals(ahead)) {
        due("from" + ahead + " to" + behind, false, true);
      }
    });
  }

  private static void refusals() {
    dueUnchanged("there are 16 fields", full(), x -> dueState("field", () -> x.field(8)));
    dueUnchanged("no such width", used(), x -> dueArgument("field", () -> x.field(33)));
    dueUnchanged("no such field", used(), x -> dueIndex("set", () -> x.set(4, 1)));
    dueUnchanged("there are 16 actions", full(), x -> dueState("action", x::action));
    dueUnchanged("it has four DOINGS", full(), x -> dueState("doing", () -> x.doing(15, 6, 0, 0, 0)));
    dueUnchanged("no such kind", used(), x -> dueArgument("doing", () -> x.doing(3, 9, 0, 0, 0)));
    dueUnchanged("no such DATUM", used(), x -> dueIndex("doing", () -> x.doing(3, 5, 0, 2, 0)));
    dueUnchanged("there are 8 tables", full(), x -> dueState("table", () -> x.table(0, NONE, 0, 1, 0)));
    dueUnchanged("no such keys", used(), x -> dueIndex("table", () -> x.table(0, 0, 0, 1, 0)));
    dueUnchanged("no such how", used(), x -> dueArgument("table", () -> x.table(0, 1, 5, 1, 0)));
    dueUnchanged("no such table to act", used(), x -> dueIndex("act", () -> x.act(2)));
    dueUnchanged("no such table to insert into", used(),
        x -> dueIndex("insert", () -> x.insert(2, 0, 1, 0, 0)));
    dueUnchanged("no such table to remove from", used(), x -> dueIndex("remove", () -> x.remove(2)));
    dueUnchanged("20 entries are there", full(), x -> due("insert", insert(x, 7, 15, 255, MAX, 0), false));
    dueUnchanged("the same of 20 is there", full(),
        x -> due("insert", insert(x, 7, 115, 255, MAX, 0), false));
    dueUnchanged("the same entry is there", used(), x -> due("insert", x.insert(0, MAX, 2, 0, 0), false));
    dueUnchanged("its action is none", used(), x -> due("insert", insert(x, 1, 0, 0, MAX, 4), false));
    dueUnchanged("its masks are none", used(), x -> due("insert", insert(x, 0, 200, 254, MAX, 2), false));
    dueUnchanged("no such entry goes", used(), x -> due("remove", remove(x, 0, 200, 254), false));
    dueUnchanged("a key() alone", used(), x -> x.key(1, 2, 3, 4));
  }

  /** 512 calls, as an object is used for no more; the last ones answer as the first ones do. */
  private static void lastCalls() {
    test("at most 512 calls: the 512th answers", () -> {
      EntryTables x = new EntryTables();
      x.field(32);
      x.action();
      x.doing(0, 7, 3, 0, 3);
      x.table(0, NONE, EXACT, 1, 0);
      for (int i = 5; i <= 511; i++) {
        due("call " + i, x.act(0), false);
      }
      due("call 512", x.word(3, 0), 3 * 507);
    });
    test("at most 512 calls: all of them clear() and what it forgets", () -> {
      EntryTables x = new EntryTables();
      for (int i = 0; i < 128; i++) {
        due("field", x.field(32), 0);
        due("action", x.action(), 0);
        due("table", x.table(0, NONE, EXACT, 1, 0), 0);
        x.clear();
      }
    });
    test("at most 512 calls: entries come and go in all of them", () -> {
      EntryTables x = new EntryTables();
      x.field(32);
      x.action();
      x.table(0, NONE, EXACT, 1, 0);
      for (int i = 0; i < 127; i++) {
        x.key(i, ALL, 0, 0);
        due("insert", x.insert(0, 0, 0, 0, 0), true);
        due("entries", x.entries(0), 1);
        due("remove", x.remove(0), true);
      }
      due("call 512", x.entries(0), 0);
    });
  }

  public static void main(String[] args) {
    news();
    clears();
    refusals();
    lastCalls();
    end();
  }
}
