import java.lang.reflect.Constructor;
import java.lang.reflect.Field;
import java.lang.reflect.Method;
import java.lang.reflect.Modifier;
import java.util.Set;
import java.util.TreeSet;

/** The class has the document's face, whole, and nothing else that is not private. */
public final class FaceTest {
  private static final String[] FACE = {
    "public static final int EntryTables.NONE",
    "public EntryTables()",
    "public void EntryTables.clear()",
    "public int EntryTables.field(int) throws IllegalArgumentException,IllegalStateException",
    "public void EntryTables.set(int,int) throws IndexOutOfBoundsException",
    "public int EntryTables.get(int)",
    "public int EntryTables.action() throws IllegalStateException",
    "public void EntryTables.doing(int,int,int,int,int)"
        + " throws IndexOutOfBoundsException,IllegalArgumentException,IllegalStateException",
    "public int EntryTables.table(int,int,int,int,int)"
        + " throws IndexOutOfBoundsException,IllegalArgumentException,IllegalStateException",
    "public void EntryTables.key(int,int,int,int)",
    "public boolean EntryTables.insert(int,int,int,int,int) throws IndexOutOfBoundsException",
    "public boolean EntryTables.remove(int) throws IndexOutOfBoundsException",
    "public boolean EntryTables.act(int) throws IndexOutOfBoundsException",
    "public int EntryTables.matches(int)",
    "public int EntryTables.port()",
    "public boolean EntryTables.isDropped()",
    "public int EntryTables.word(int,int)",
    "public int EntryTables.entries(int)",
  };

  private static int wrong = 0;

  private static void fail(String text) {
    wrong++;
    System.out.println(text);
  }

  private static Set<String> members() {
    Set<String> found = new TreeSet<>();
    for (Constructor<?> c : EntryTables.class.getDeclaredConstructors()) {
      found.add(c.toGenericString());
    }
    Set<String> publicNames = new TreeSet<>();
    for (Method m : EntryTables.class.getDeclaredMethods()) {
      if (!Modifier.isPrivate(m.getModifiers())) {
        found.add(m.toGenericString().replace("java.lang.", ""));
        publicNames.add(m.getName());
      }
    }
    for (Method m : EntryTables.class.getDeclaredMethods()) {
      if (Modifier.isPrivate(m.getModifiers()) && publicNames.contains(m.getName())) {
        fail("a private method bears a public one's name: " + m);
      }
    }
    for (Field f : EntryTables.class.getDeclaredFields()) {
      if (!Modifier.isPrivate(f.getModifiers())) {
        found.add(f.toGenericString());
      }
    }
    return found;
  }

  public static void main(String[] args) {
    Set<String> found = members();
    Set<String> face = new TreeSet<>(Set.of(FACE));
    for (String member : face) {
      if (!found.contains(member)) {
        fail("missing: " + member);
      }
    }
    for (String member : found) {
      if (!face.contains(member)) {
        fail("not in the face: " + member);
      }
    }
    int of = EntryTables.class.getModifiers();
    if (!Modifier.isPublic(of) || !Modifier.isFinal(of)) {
      fail("the class is not public and final");
    }
    System.out.println(wrong == 0 ? "the face is as due" : wrong + " faults of the face");
    if (wrong != 0) {
      System.exit(1);
    }
  }
}
