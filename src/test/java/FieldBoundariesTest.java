/** FIELDS: their numbers, widths, words; promises 3, 4 and 5. */
public final class FieldBoundariesTest extends Due {
  private static EntryTables sixteenOf(int width) {
    EntryTables x = new EntryTables();
    for (int i = 0; i < 16; i++) {
      x.field(width);
    }
    return x;
  }

  private static long onesOf(int width) {
    return (1L << width) - 1;
  }

  private static void numbers() {
    test("FIELDS 0 .. 15, the first", () -> due("field", new EntryTables().field(8), 0));
    test("FIELDS 0 .. 15, one after the other to the last", () -> {
      EntryTables x = new EntryTables();
      for (int i = 0; i < 16; i++) {
        due("field", x.field(8), i);
      }
    });
    test("3 there are 16", () -> {
      EntryTables x = sixteenOf(8);
      dueState("field 16", () -> x.field(8));
      dueState("and again", () -> x.field(8));
      dueState("of the smallest width", () -> x.field(1));
      dueState("of the largest width", () -> x.field(32));
    });
    test("3 there are 16: the refused one did not come", () -> {
      EntryTables x = sixteenOf(8);
      x.set(15, 77);
      dueState("field 16", () -> x.field(4));
      dueIndex("set", () -> x.set(16, 1));
      due("get", x.get(16), 0);
      due("the last one's word", x.get(15), 77);
      x.set(15, ALL);
      due("the last one's width", x.get(15), 255);
    });
    test("3 there are 16, again after clear()", () -> {
      EntryTables x = sixteenOf(8);
      x.clear();
      for (int i = 0; i < 16; i++) {
        due("field", x.field(8), i);
      }
      dueState("field 16", () -> x.field(8));
    });
    test("3 the width ahead of the number", () -> {
      EntryTables x = sixteenOf(8);
      dueArgument("0", () -> x.field(0));
      dueArgument("33", () -> x.field(33));
    });
  }

  private static void widths() {
    test("3 a WIDTH of 1, the smallest", () -> due("field", new EntryTables().field(1), 0));
    test("3 a WIDTH of 32, the largest", () -> due("field", new EntryTables().field(32), 0));
    for (int width : new int[] {0, -1, -8, -31, -32, MIN, MIN + 8}) {
      test("3 not 1 .. 32, too small, " + width,
          () -> dueArgument("field", () -> new EntryTables().field(width)));
    }
    for (int width : new int[] {33, 34, 40, 64, 65, 256, MAX}) {
      test("3 not 1 .. 32, too large, " + width,
          () -> dueArgument("field", () -> new EntryTables().field(width)));
    }
    test("3 not 1 .. 32: the refused one did not come", () -> {
      EntryTables x = new EntryTables();
      dueArgument("0", () -> x.field(0));
      dueArgument("33", () -> x.field(33));
      dueIndex("set", () -> x.set(0, 1));
      due("the next one's number", x.field(5), 0);
      x.set(0, ALL);
      due("the next one's width", x.get(0), 31);
    });
  }

  /** For each width the greatest word and the bits around its edge. */
  private static void cuts() {
    for (int width = 1; width <= 32; width++) {
      int w = width;
      test("words are cut to a WIDTH of " + w, () -> {
        EntryTables x = new EntryTables();
        x.field(w);
        x.set(0, ALL);
        due("all ones", x.get(0), w == 32 ? -1 : onesOf(w));
        x.set(0, 1 << (w - 1));
        due("the top bit stays", x.get(0), 1 << (w - 1));
        x.set(0, (int) (onesOf(w) + 1));
        due("the bit above it goes", x.get(0), 0);
        x.set(0, (int) (onesOf(w) + 2));
        due("around to 1", x.get(0), 1);
        x.set(0, MIN);
        due("the lowest int", x.get(0), w == 32 ? MIN : 0);
        x.set(0, MAX);
        due("the greatest int", x.get(0), w == 32 ? MAX : onesOf(w));
      });
    }
    test("cut (unsigned): 8 bits do not become negative", () -> {
      EntryTables x = new EntryTables();
      x.field(8);
      x.set(0, -128);
      due("-128", x.get(0), 128);
      x.set(0, 255);
      due("255", x.get(0), 255);
      x.set(0, 256);
      due("256", x.get(0), 0);
    });
    test("the words of fields of all widths are apart", () -> {
      EntryTables x = new EntryTables();
      for (int i = 0; i < 16; i++) {
        x.field(16 + i);
      }
      for (int i = 0; i < 16; i++) {
        x.set(i, ALL);
      }
      for (int i = 0; i < 16; i++) {
        due("field " + i, x.get(i), onesOf(16 + i));
      }
    });
  }

  private static void sets() {
    test("3 a field comes, 0", () -> {
      EntryTables x = sixteenOf(32);
      for (int i = 0; i < 16; i++) {
        due("get", x.get(i), 0);
      }
    });
    test("3 a field comes, 0, where one was ahead of clear()", () -> {
      EntryTables x = sixteenOf(32);
      for (int i = 0; i < 16; i++) {
        x.set(i, ALL);
      }
      x.clear();
      for (int i = 0; i < 16; i++) {
        x.field(32);
        due("get", x.get(i), 0);
      }
    });
    test("3 a field's width is its own, where one was ahead of clear()", () -> {
      EntryTables x = sixteenOf(4);
      x.clear();
      x.field(6);
      x.set(0, ALL);
      due("get", x.get(0), 63);
    });
    test("4 a field holds a word, the first and the last of 16", () -> {
      EntryTables x = sixteenOf(32);
      x.set(0, 5);
      x.set(15, 6);
      due("the first", x.get(0), 5);
      due("the last", x.get(15), 6);
      for (int i = 1; i < 15; i++) {
        due("one between", x.get(i), 0);
      }
    });
    test("4 no such field: there is none", () -> {
      EntryTables x = new EntryTables();
      dueIndex("set", () -> x.set(0, 1));
    });
    test("4 no such field: the one behind the last", () -> {
      EntryTables x = new EntryTables();
      for (int i = 0; i < 16; i++) {
        int next = i;
        dueIndex("set " + i, () -> x.set(next, 1));
        x.field(8);
        x.set(i, 1);
      }
    });
    for (int field : NO_NUMBER) {
      test("4 no such field: " + field, () -> {
        EntryTables x = sixteenOf(8);
        dueIndex("set", () -> x.set(field, 1));
        for (int i = 0; i < 16; i++) {
          due("no field changed", x.get(i), 0);
        }
      });
    }
  }

  private static void gets() {
    test("5 0 for none such: there is none", () -> due("get", new EntryTables().get(0), 0));
    test("5 0 for none such: the one behind the last", () -> {
      EntryTables x = new EntryTables();
      for (int i = 0; i < 15; i++) {
        x.field(8);
        x.set(i, 9);
        due("the last", x.get(i), 9);
        due("the one behind it", x.get(i + 1), 0);
      }
    });
    test("5 0 for none such: one that was ahead of clear()", () -> {
      EntryTables x = sixteenOf(8);
      x.set(0, 3);
      x.set(15, 3);
      x.clear();
      due("the first", x.get(0), 0);
      due("the last", x.get(15), 0);
    });
    for (int field : NO_NUMBER) {
      test("5 0 for none such: " + field, () -> {
        EntryTables x = sixteenOf(8);
        for (int i = 0; i < 16; i++) {
          x.set(i, 9);
        }
        due("get", x.get(field), 0);
      });
    }
  }

  public static void main(String[] args) {
    numbers();
    widths();
    cuts();
    sets();
    gets();
    end();
  }
}
