/** ACTIONS, their DOINGS and the ARRAYS; promises 6, 7, 12, 14, 15 and 16. */
public final class ActionBoundariesTest extends Due {
  private static final int FIRST = 1234567;
  private static final int SECOND = -2;

  /**
   * Fields 0 .. 3 of 32, 8, 4 and 1 bits with the words -5, 200, 9 and 1. Table 0 does action 1 without
   * a match, table 1 with one and the data FIRST and SECOND.
   */
  private static EntryTables with(int[]... doings) {
    EntryTables x = ready();
    give(x, 1, doings);
    x.table(3, NONE, 0, 3, 1);
    x.table(3, NONE, 2, 3, 0);
    x.key(0, 0, 0, 0);
    x.insert(1, 0, 1, FIRST, SECOND);
    x.set(0, -5);
    x.set(1, 200);
    x.set(2, 9);
    x.set(3, 1);
    return x;
  }

  private static EntryTables done(int[]... doings) {
    EntryTables x = with(doings);
    due("act", x.act(1), true);
    return x;
  }

  private static EntryTables missed(int[]... doings) {
    EntryTables x = with(doings);
    due("act", x.act(0), false);
    return x;
  }

  private static EntryTables sixteenActions() {
    EntryTables x = new EntryTables();
    for (int i = 0; i < 16; i++) {
      x.action();
    }
    return x;
  }

  private static void numbers() {
    test("ACTIONS 0 .. 15, the first", () -> due("action", new EntryTables().action(), 0));
    test("ACTIONS 0 .. 15, one after the other to the last", () -> {
      EntryTables x = new EntryTables();
      for (int i = 0; i < 16; i++) {
        due("action", x.action(), i);
      }
    });
    test("6 there are 16", () -> {
      EntryTables x = sixteenActions();
      dueState("action 16", x::action);
      dueState("and again", x::action);
      dueIndex("it did not come", () -> x.doing(16, 6, 0, 0, 0));
    });
    test("6 there are 16, again after clear()", () -> {
      EntryTables x = sixteenActions();
      x.clear();
      for (int i = 0; i < 16; i++) {
        due("action", x.action(), i);
      }
      dueState("action 16", x::action);
    });
    test("6 an action without DOINGS", () -> {
      EntryTables x = done();
      due("port", x.port(), 0);
      due("drop", x.isDropped(), false);
      due("field 0", x.get(0), -5);
      due("field 1", x.get(1), 200);
      due("field 2", x.get(2), 9);
      due("field 3", x.get(3), 1);
      for (int array = 0; array < 4; array++) {
        for (int i = 0; i < 16; i++) {
          due("word", x.word(array, i), 0);
        }
      }
    });
    test("6 an action without DOINGS, where one was ahead of clear()", () -> {
      EntryTables x = with(d(6, 0, 0, 0), d(4, 0, 3, 0));
      x.clear();
      x.field(8);
      x.action();
      x.action();
      x.table(0, NONE, 0, 3, 1);
      due("act", x.act(0), false);
      due("port", x.port(), 0);
      due("drop", x.isDropped(), false);
    });
    test("7 a DOING of the first and of the last action", () -> {
      EntryTables x = sixteenActions();
      x.field(8);
      x.doing(0, 4, 0, 10, 0);
      x.doing(15, 4, 0, 25, 0);
      for (int i = 0; i < 8; i++) {
        x.table(0, NONE, 0, 65535, i == 0 ? 0 : 16 - i);
        x.act(i);
        due("port " + i, x.port(), i == 0 ? 10 : i == 1 ? 25 : 0);
      }
    });
  }

  private static void upToFour() {
    test("up to four DOINGS: the fourth is done", () -> {
      EntryTables x = done(d(0, 0, 1, 0), d(0, 1, 2, 0), d(0, 2, 3, 0), d(0, 3, 0, 0));
      for (int i = 0; i < 4; i++) {
        due("field " + i, x.get(i), (i + 1) % 4);
      }
    });
    test("7 it has four", () -> {
      EntryTables x = ready();
      for (int i = 0; i < 4; i++) {
        x.doing(1, 6, 0, 0, 0);
      }
      dueState("a fifth", () -> x.doing(1, 6, 0, 0, 0));
      dueState("and again", () -> x.doing(1, 4, 0, 1, 0));
      x.doing(0, 6, 0, 0, 0);
      x.doing(2, 6, 0, 0, 0);
    });
    test("7 it has four: the fifth is not done", () -> {
      EntryTables x = with(d(4, 0, 1, 0), d(4, 0, 2, 0), d(4, 0, 3, 0), d(4, 0, 4, 0));
      dueState("a fifth", () -> x.doing(1, 6, 0, 0, 0));
      dueState("a sixth", () -> x.doing(1, 4, 0, 6, 0));
      x.act(1);
      due("port", x.port(), 4);
      due("drop", x.isDropped(), false);
    });
    test("7 it has four, again after clear()", () -> {
      EntryTables x = with(d(6, 0, 0, 0), d(6, 0, 0, 0), d(6, 0, 0, 0), d(6, 0, 0, 0));
      x.clear();
      x.action();
      x.action();
      for (int i = 0; i < 4; i++) {
        x.doing(1, 6, 0, 0, 0);
      }
      dueState("a fifth", () -> x.doing(1, 6, 0, 0, 0));
    });
    test("7 a refused DOING is none of the four", () -> {
      EntryTables x = with();
      for (int i = 0; i < 5; i++) {
        dueArgument("kind", () -> x.doing(1, 9, 0, 0, 0));
        dueIndex("field", () -> x.doing(1, 0, 4, 0, 0));
        dueIndex("action", () -> x.doing(4, 6, 0, 0, 0));
      }
      give(x, 1, d(4, 0, 1, 0), d(4, 0, 2, 0), d(4, 0, 3, 0), d(4, 0, 4, 0));
      x.act(1);
      due("port", x.port(), 4);
      due("field 0", x.get(0), -5);
    });
    test("7 what is not there goes ahead of four", () -> {
      EntryTables x = with(d(6, 0, 0, 0), d(6, 0, 0, 0), d(6, 0, 0, 0), d(6, 0, 0, 0));
      dueIndex("field", () -> x.doing(1, 0, 4, 0, 0));
      dueIndex("array", () -> x.doing(1, 7, 4, 0, 0));
      dueIndex("datum", () -> x.doing(1, 5, 0, 2, 0));
      dueArgument("kind", () -> x.doing(1, 9, 0, 0, 0));
    });
    test("one after the other: what comes later sees what came earlier", () -> {
      EntryTables x = done(d(0, 1, 7, 0), d(2, 1, 1, 1), d(1, 0, 1, 0), d(7, 0, 0, 1));
      due("field 1", x.get(1), 15);
      due("field 0", x.get(0), 15);
      due("word", x.word(0, 15), 1);
    });
    test("one after the other: the last stays", () -> {
      due("field", done(d(0, 0, 7, 0), d(0, 0, 8, 0)).get(0), 8);
      due("port", done(d(4, 0, 7, 0), d(5, 0, 1, 0)).port(), SECOND);
      due("port", done(d(5, 0, 1, 0), d(4, 0, 7, 0)).port(), 7);
    });
  }

  private static void kinds() {
    for (int kind : new int[] {-1, -8, MIN}) {
      test("7 no such kind, too small, " + kind,
          () -> dueArgument("doing", () -> ready().doing(0, kind, 0, 0, 0)));
    }
    for (int kind : new int[] {9, 10, 16, MAX}) {
      test("7 no such kind, too large, " + kind,
          () -> dueArgument("doing", () -> ready().doing(0, kind, 0, 0, 0)));
    }
    for (int k = 0; k <= 8; k++) {
      int kind = k;
      test("7 kind " + kind + " is one", () -> ready().doing(0, kind, 0, 0, 0));
    }
    test("7 the kind first: ahead of the action", () -> {
      dueArgument("too large", () -> new EntryTables().doing(0, 9, 0, 0, 0));
      dueArgument("too small", () -> new EntryTables().doing(0, -1, 0, 0, 0));
    });
    test("7 the kind first: ahead of fields, ARRAY and DATUM",
        () -> dueArgument("doing", () -> ready().doing(0, 9, -1, -1, -1)));
    for (int action : NO_NUMBER) {
      test("7 no such action: " + action, () -> {
        EntryTables x = sixteenActions();
        dueIndex("doing", () -> x.doing(action, 6, 0, 0, 0));
      });
    }
    test("7 no such action: the one behind the last", () -> {
      EntryTables x = new EntryTables();
      for (int i = 0; i < 16; i++) {
        int next = i;
        dueIndex("doing", () -> x.doing(next, 6, 0, 0, 0));
        x.action();
        x.doing(i, 6, 0, 0, 0);
      }
    });
    test("7 no such action: one that was ahead of clear()", () -> {
      EntryTables x = sixteenActions();
      x.clear();
      dueIndex("doing", () -> x.doing(0, 6, 0, 0, 0));
    });
  }

  /** Kinds by what their numbers x, y, z are: f a field, a an ARRAY, d a DATUM, - anything. */
  private static final String[] OPERANDS = {"f--", "ff-", "ff-", "fd-", "---", "-d-", "---", "af-", "ffa"};

  private static int[] wrongOnes(char operand) {
    return switch (operand) {
      case 'f' -> new int[] {MIN, -16, -1, 4, 5, 16, 32, MAX};
      case 'a' -> new int[] {MIN, -4, -1, 4, 5, 16, 32, MAX};
      case 'd' -> new int[] {MIN, -2, -1, 2, 3, 32, MAX};
      default -> new int[] {};
    };
  }

  private static int greatest(char operand) {
    return operand == 'd' ? 1 : 3;
  }

  private static void operands() {
    for (int k = 0; k <= 8; k++) {
      int kind = k;
      String of = OPERANDS[kind];
      for (int at = 0; at < 3; at++) {
        for (int none : wrongOnes(of.charAt(at))) {
          int[] n = {0, 0, 0};
          n[at] = none;
          test("7 no such fields, ARRAY or DATUM: kind " + kind + ", " + "xyz".charAt(at) + " " + none,
              () -> dueIndex("doing", () -> ready().doing(0, kind, n[0], n[1], n[2])));
        }
      }
      test("7 the greatest fields, ARRAY and DATUM: kind " + kind,
          () -> ready().doing(0, kind, greatest(of.charAt(0)), greatest(of.charAt(1)),
              greatest(of.charAt(2))));
      for (int free : new int[] {MIN, -1, 16, MAX}) {
        test("7 what kind " + kind + " does not use may be " + free,
            () -> ready().doing(0, kind, of.charAt(0) == '-' ? free : 0, of.charAt(1) == '-' ? free : 0,
                of.charAt(2) == '-' ? free : 0));
      }
    }
    test("7 no such field: there are none", () -> {
      EntryTables x = new EntryTables();
      x.action();
      for (int kind : new int[] {0, 1, 2, 3, 7, 8}) {
        dueIndex("kind " + kind, () -> x.doing(0, kind, 0, 0, 0));
      }
      x.doing(0, 4, 0, 0, 0);
      x.doing(0, 5, 0, 0, 0);
      x.doing(0, 6, 0, 0, 0);
    });
    test("7 a field may come behind the action", () -> {
      EntryTables x = new EntryTables();
      x.action();
      dueIndex("ahead of it", () -> x.doing(0, 0, 0, 3, 0));
      x.field(8);
      x.doing(0, 0, 0, 3, 0);
      x.table(0, NONE, 0, 1, 0);
      x.act(0);
      due("get", x.get(0), 3);
    });
  }

  private static void fieldKinds() {
    test("0 field x is y, cut", () -> {
      due("32 bits, below 0", done(d(0, 0, MIN, 3)).get(0), MIN);
      due("8 bits, the greatest", done(d(0, 1, 255, 3)).get(1), 255);
      due("8 bits, around", done(d(0, 1, 256, 3)).get(1), 0);
      due("8 bits, below 0", done(d(0, 1, -1, 3)).get(1), 255);
      due("1 bit", done(d(0, 3, 2, 3)).get(3), 0);
    });
    test("1 field x is field y, cut", () -> {
      due("8 bits to 32 (unsigned)", done(d(1, 0, 1, 3)).get(0), 200);
      due("8 bits to 4", done(d(1, 2, 1, 3)).get(2), 8);
      due("32 bits to 8", done(d(1, 1, 0, 3)).get(1), 251);
      due("to itself", done(d(1, 1, 1, 3)).get(1), 200);
      due("field y stays", done(d(1, 2, 1, 3)).get(1), 200);
    });
    test("2 field x grows by field y and z, to the greatest and around", () -> {
      due("8 bits, to the greatest", done(d(2, 1, 2, 46)).get(1), 255);
      due("8 bits, around", done(d(2, 1, 2, 47)).get(1), 0);
      due("8 bits, to 0", done(d(2, 1, 2, -209)).get(1), 0);
      due("8 bits, below 0", done(d(2, 1, 2, -210)).get(1), 255);
      due("1 bit, around", done(d(2, 3, 3, 0)).get(3), 0);
      due("32 bits, to -1", done(d(2, 0, 2, -5)).get(0), -1);
      due("32 bits, around 2^32", done(d(2, 0, 2, -4)).get(0), 0);
      due("32 bits, around 2^31", done(d(0, 0, MAX, 0), d(2, 0, 3, 0)).get(0), MIN);
      due("32 bits, by the lowest int", done(d(2, 0, 2, MIN)).get(0), MIN + 4);
      due("32 bits, by the greatest int", done(d(2, 0, 2, MAX)).get(0), MIN + 3);
    });
    test("2 field x grows by field y and z, each of them", () -> {
      due("by nothing", done(d(0, 2, 0, 0), d(2, 1, 2, 0)).get(1), 200);
      due("by field y alone", done(d(2, 0, 1, 0)).get(0), 195);
      due("by z alone", done(d(0, 2, 0, 0), d(2, 1, 2, 7)).get(1), 207);
      due("by itself", done(d(2, 2, 2, 1)).get(2), 3);
      due("field y stays", done(d(2, 1, 2, 3)).get(2), 9);
    });
    test("3 field x is DATUM y (0, 1), cut", () -> {
      due("DATUM 0", done(d(3, 0, 0, 3)).get(0), FIRST);
      due("DATUM 1", done(d(3, 0, 1, 3)).get(0), SECOND);
      due("DATUM 0, 8 bits", done(d(3, 1, 0, 3)).get(1), FIRST & 255);
      due("DATUM 1, 4 bits", done(d(3, 2, 1, 3)).get(2), 14);
    });
    test("3 DATA are 0 without a match", () -> {
      due("DATUM 0", missed(d(3, 0, 0, 3)).get(0), 0);
      due("DATUM 1", missed(d(3, 0, 1, 3)).get(0), 0);
    });
  }

  private static void portKinds() {
    test("4 the PORT is y, uncut", () -> {
      due("the lowest", done(d(4, 0, MIN, 3)).port(), MIN);
      due("the greatest", done(d(4, 0, MAX, 3)).port(), MAX);
      due("0", done(d(4, 0, 5, 0), d(4, 0, 0, 3)).port(), 0);
    });
    test("5 the PORT is DATUM y, uncut", () -> {
      due("DATUM 0", done(d(5, 1, 0, 1)).port(), FIRST);
      due("DATUM 1", done(d(5, 0, 1, 0)).port(), SECOND);
    });
    test("5 DATA are 0 without a match", () -> {
      due("DATUM 0", missed(d(4, 0, 5, 0), d(5, 0, 0, 0)).port(), 0);
      due("DATUM 1", missed(d(4, 0, 5, 0), d(5, 0, 1, 0)).port(), 0);
    });
    test("5 DATA are 0 without a match, behind an act() with one", () -> {
      EntryTables x = with(d(5, 0, 0, 0));
      x.act(1);
      due("with one", x.port(), FIRST);
      x.act(0);
      due("without", x.port(), 0);
    });
    test("6 DROP: what is ahead of it and behind it is done too", () -> {
      EntryTables x = done(d(4, 0, 3, 0), d(6, 0, 0, 0), d(0, 0, 4, 0), d(7, 0, 3, 1));
      due("drop", x.isDropped(), true);
      due("port", x.port(), 3);
      due("field", x.get(0), 4);
      due("word", x.word(0, 1), 1);
    });
    test("6 DROP twice", () -> due("drop", done(d(6, 0, 0, 0), d(6, 0, 0, 0)).isDropped(), true));
    test("6 DROP alone drops", () -> due("drop", done(d(4, 0, 0, 0), d(5, 0, 0, 0)).isDropped(), false));
  }

  /** All numbers are 1, so that what another kind would do shows too. */
  private static void dueAlone(int kind, int field, int port, boolean drop, int word) {
    test("kind " + kind + " does what it says and nothing else", () -> {
      EntryTables x = done(d(kind, 1, 1, 1));
      due("field 0", x.get(0), -5);
      due("field 1", x.get(1), field);
      due("field 2", x.get(2), 9);
      due("field 3", x.get(3), 1);
      due("port", x.port(), port);
      due("drop", x.isDropped(), drop);
      for (int array = 0; array < 4; array++) {
        for (int i = 0; i < 16; i++) {
          due("word " + array + ", " + i, x.word(array, i), array == 1 && i == 200 % 16 ? word : 0);
        }
      }
    });
  }

  private static void eachAlone() {
    dueAlone(0, 1, 0, false, 0);
    dueAlone(1, 200, 0, false, 0);
    dueAlone(2, 401 - 256, 0, false, 0);
    dueAlone(3, SECOND + 256, 0, false, 0);
    dueAlone(4, 200, 1, false, 0);
    dueAlone(5, 200, SECOND, false, 0);
    dueAlone(6, 200, 0, true, 0);
    dueAlone(7, 200, 0, false, 1);
    dueAlone(8, 0, 0, false, 0);
  }

  private static final int[] MODULO = {
    0, 1, 7, 14, 15, 16, 17, 31, 32, 255, 256, MAX - 15, MAX, MIN, MIN + 1, -17, -16, -15, -5, -1
  };

  /** Modulo 16, as an unsigned word has it. */
  private static int modulo(int word) {
    return (int) ((word & 0xFFFFFFFFL) % 16);
  }

  private static void modulos() {
    for (int word : MODULO) {
      test("7 word field y modulo 16 of ARRAY x: field " + word, () -> {
        EntryTables x = done(d(0, 0, word, 0), d(7, 2, 0, 5));
        for (int array = 0; array < 4; array++) {
          for (int i = 0; i < 16; i++) {
            due("word " + array + ", " + i, x.word(array, i), array == 2 && i == modulo(word) ? 5 : 0);
          }
        }
      });
      test("8 word field y modulo 16 of ARRAY z: field " + word, () -> {
        EntryTables x = done(d(0, 2, modulo(word), 0), d(7, 2, 2, 77), d(0, 0, word, 0), d(8, 0, 0, 2));
        due("get", x.get(0), 77);
      });
    }
    test("7 modulo 16 of a field that is narrower", () -> {
      due("4 bits, all ones", done(d(0, 2, -1, 0), d(7, 0, 2, 5)).word(0, 15), 5);
      due("1 bit, one", done(d(7, 0, 3, 5)).word(0, 1), 5);
    });
  }

  private static void arrayKinds() {
    test("7 a word grows by z, around", () -> {
      due("from the greatest int", done(d(7, 1, 3, MAX), d(7, 1, 3, 1)).word(1, 1), MIN);
      due("from the lowest int", done(d(7, 1, 3, MIN), d(7, 1, 3, -1)).word(1, 1), MAX);
      due("from -1", done(d(7, 1, 3, -1), d(7, 1, 3, 1)).word(1, 1), 0);
      due("from 0", done(d(7, 1, 3, -1)).word(1, 1), -1);
      due("around 2^32", done(d(7, 1, 3, MIN), d(7, 1, 3, MIN)).word(1, 1), 0);
    });
    test("7 a word grows by z, not just is z", () -> {
      due("twice", done(d(7, 1, 3, 5), d(7, 1, 3, 6)).word(1, 1), 11);
      due("by 0", done(d(7, 1, 3, 5), d(7, 1, 3, 0)).word(1, 1), 5);
    });
    test("7 a word grows in each act()", () -> {
      EntryTables x = with(d(7, 1, 3, 5));
      x.act(1);
      x.act(1);
      x.act(0);
      due("word", x.word(1, 1), 15);
    });
    test("7 the field y stays", () -> due("get", done(d(7, 1, 1, 5)).get(1), 200));
    test("8 field x is a word, cut", () -> {
      due("32 bits", done(d(7, 2, 3, -77), d(8, 0, 3, 2)).get(0), -77);
      due("8 bits", done(d(7, 2, 3, -77), d(8, 1, 3, 2)).get(1), 256 - 77);
      due("8 bits, around", done(d(7, 2, 3, 256), d(8, 1, 3, 2)).get(1), 0);
      due("1 bit", done(d(7, 2, 3, 6), d(8, 3, 3, 2)).get(3), 0);
    });
    test("8 field x may be field y", () -> due("get", done(d(7, 2, 2, 7), d(8, 2, 2, 2)).get(2), 7));
    test("8 the word and field y stay", () -> {
      EntryTables x = done(d(7, 2, 1, 7), d(8, 0, 1, 2));
      due("word", x.word(2, 8), 7);
      due("field y", x.get(1), 200);
    });
    test("8 of another ARRAY, 0", () -> {
      due("the one ahead", done(d(7, 2, 0, 77), d(8, 0, 0, 1)).get(0), 0);
      due("the one behind", done(d(7, 2, 0, 77), d(8, 0, 0, 3)).get(0), 0);
    });
    test("8 a word is 0 at first", () -> {
      for (int array = 0; array < 4; array++) {
        due("ARRAY " + array, done(d(8, 0, 0, array)).get(0), 0);
      }
    });
  }

  /** Word i of each array becomes 100 times its array, and i, and 1. */
  private static EntryTables filled() {
    EntryTables x = ready();
    give(x, 0, d(7, 0, 2, 1), d(7, 1, 2, 101), d(7, 2, 2, 201), d(7, 3, 2, 301));
    give(x, 1, d(7, 0, 2, 1), d(7, 1, 2, 1), d(7, 2, 2, 1), d(7, 3, 2, 1));
    x.table(3, NONE, 0, 3, 0);
    x.table(3, NONE, 0, 3, 1);
    for (int i = 0; i < 16; i++) {
      x.set(2, i);
      x.act(0);
      for (int times = 0; times < i; times++) {
        x.act(1);
      }
    }
    return x;
  }

  private static void words() {
    test("ARRAYS 0 .. 3 have 16 words, 0 at first", () -> {
      EntryTables x = new EntryTables();
      for (int array = 0; array < 4; array++) {
        for (int i = 0; i < 16; i++) {
          due("word " + array + ", " + i, x.word(array, i), 0);
        }
      }
    });
    test("16 word i of an ARRAY, from the first of the first to the last of the last", () -> {
      EntryTables x = filled();
      for (int array = 0; array < 4; array++) {
        for (int i = 0; i < 16; i++) {
          due("word " + array + ", " + i, x.word(array, i), 100 * array + i + 1);
        }
      }
    });
    int[] noArrays = {MIN, -4, -1, 4, 5, 8, 16, 32, MAX};
    test("16 0 for no such ARRAY", () -> {
      EntryTables x = filled();
      for (int array : noArrays) {
        due("word " + array + ", 0", x.word(array, 0), 0);
        due("word " + array + ", 15", x.word(array, 15), 0);
        due("word " + array + ", 16", x.word(array, 16), 0);
      }
    });
    test("16 0 for no such word, which is none of the ARRAY beside it", () -> {
      EntryTables x = filled();
      for (int array = 0; array < 4; array++) {
        for (int i : NO_NUMBER) {
          due("word " + array + ", " + i, x.word(array, i), 0);
        }
      }
    });
    test("16 0 for neither", () -> {
      EntryTables x = filled();
      due("word -1, 16", x.word(-1, 16), 0);
      due("word 4, -1", x.word(4, -1), 0);
      due("word -1, 32", x.word(-1, 32), 0);
      due("word 4, -16", x.word(4, -16), 0);
    });
  }

  private static void latest() {
    test("14 no act() yet", () -> due("port", with(d(4, 0, 7, 0)).port(), 0));
    test("15 no act() yet", () -> due("drop", with(d(6, 0, 0, 0)).isDropped(), false));
    test("12 PORT is 0 ahead of it", () -> {
      EntryTables x = with(d(4, 0, 7, 0));
      x.table(3, NONE, 0, 3, 0);
      x.act(1);
      due("port", x.port(), 7);
      x.act(2);
      due("port of an action without DOINGS", x.port(), 0);
    });
    test("12 DROP is not done ahead of it", () -> {
      EntryTables x = with(d(6, 0, 0, 0));
      x.table(3, NONE, 0, 3, 0);
      x.act(1);
      due("drop", x.isDropped(), true);
      x.act(2);
      due("drop of an action without DOINGS", x.isDropped(), false);
    });
    test("14, 15 of the latest act(): other calls leave them", () -> {
      EntryTables x = with(d(4, 0, 7, 0), d(6, 0, 0, 0));
      x.act(1);
      x.set(0, 1);
      x.field(3);
      x.action();
      x.doing(0, 4, 0, 8, 0);
      x.table(0, NONE, 0, 3, 0);
      x.key(1, 1, 1, 1);
      x.insert(1, 0, 0, 0, 0);
      x.remove(1);
      x.matches(1);
      due("port", x.port(), 7);
      due("drop", x.isDropped(), true);
      due("port, asked again", x.port(), 7);
      due("drop, asked again", x.isDropped(), true);
    });
    test("14, 15 of the latest act(): one that throws is none", () -> {
      EntryTables x = with(d(4, 0, 7, 0), d(6, 0, 0, 0));
      x.act(1);
      dueIndex("too small", () -> x.act(-1));
      dueIndex("too large", () -> x.act(2));
      due("port", x.port(), 7);
      due("drop", x.isDropped(), true);
    });
    test("12 a DOING that comes later is done from then on", () -> {
      EntryTables x = with(d(4, 0, 7, 0));
      x.act(1);
      due("ahead of it", x.port(), 7);
      x.doing(1, 4, 0, 9, 0);
      x.act(1);
      due("behind it", x.port(), 9);
    });
  }

  public static void main(String[] args) {
    numbers();
    upToFour();
    kinds();
    operands();
    fieldKinds();
    portKinds();
    eachAlone();
    modulos();
    arrayKinds();
    words();
    latest();
    end();
  }
}
