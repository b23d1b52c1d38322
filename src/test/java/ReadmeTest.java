import java.io.IOException;
import java.nio.file.Files;
import java.nio.file.Path;
import java.util.ArrayList;
import java.util.List;

/** The example of README.md: it stands here line by line, and answers what its comments say. */
public final class ReadmeTest extends Due {
  private static void example() {
    // README.md's example begins
    EntryTables x = new EntryTables();

    // Fields: their width in bits.
    int address = x.field(32);
    int hops = x.field(8);

    // Actions, each with up to four doings, done one after the other.
    int drop = x.action();
    x.doing(drop, 6, 0, 0, 0);                        // DROP
    int send = x.action();
    x.doing(send, 5, 0, 0, 0);                        // the port is datum 0 of the entry
    x.doing(send, 7, 2, hops, 1);                     // word (hops modulo 16) of array 2 grows by 1
    x.doing(send, 0, hops, 9, 0);                     // hops is 9

    // A table with one key, matched by PREFIX (1). It may do both actions (bits 0 and 1), and does drop
    // where no entry matches.
    int routes = x.table(address, EntryTables.NONE, 1, 1 << drop | 1 << send, drop);

    // Entries: key() says values and masks; insert() says the priority, the action and two data.
    x.key(0x0A000000, 0xFF000000, 0, 0);              // 10.0.0.0/8
    boolean came = x.insert(routes, 0, send, 5, 0);   // true
    boolean again = x.insert(routes, 0, send, 6, 0);  // false: one with this key is there
    x.key(0x0A010000, 0xFFFF0000, 0, 0);              // 10.1.0.0/16
    x.insert(routes, 0, send, 6, 0);
    int entries = x.entries(routes);                  // 2

    // A match: both entries fit, the longer prefix is done.
    x.set(address, 0x0A010203);
    x.set(hops, 3);
    int would = x.matches(routes);                    // send; asking does nothing
    boolean matched = x.act(routes);                  // true
    int port = x.port();                              // 6
    int count = x.word(2, 3);                         // 1
    int now = x.get(hops);                            // 9

    // No match: drop is done.
    x.set(address, 0x0B000000);
    boolean missed = !x.act(routes);                  // true
    boolean dropped = x.isDropped();                  // true
    // README.md's example ends
    due("came", came, true);
    due("again", again, false);
    due("entries", entries, 2);
    due("would", would, send);
    due("matched", matched, true);
    due("port", port, 6);
    due("count", count, 1);
    due("now", now, 9);
    due("missed", missed, true);
    due("dropped", dropped, true);
  }

  /** The lines between two, without the blanks ahead of each. */
  private static List<String> between(String file, String begin, String end) throws IOException {
    List<String> found = new ArrayList<>();
    boolean inside = false;
    for (String line : Files.readAllLines(Path.of(file))) {
      String text = line.strip();
      if (inside && text.equals(end)) {
        return found;
      }
      if (inside) {
        found.add(text);
      }
      inside = inside || text.equals(begin);
    }
    return found;
  }

  private static void sameExample() throws IOException {
    List<String> told = between("README.md", "```java", "```");
    List<String> run = between("src/test/java/ReadmeTest.java",
        "// README.md's example begins", "// README.md's example ends");
    due("lines of the example in README.md", told.size(), run.size());
    for (int i = 0; i < told.size() && i < run.size(); i++) {
      due("README.md's line '" + told.get(i) + "' is the test's", told.get(i).equals(run.get(i)), true);
    }
  }

  public static void main(String[] args) throws IOException {
    example();
    sameExample();
    end();
  }
}
