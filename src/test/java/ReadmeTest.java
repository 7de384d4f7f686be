import java.io.IOException;
import java.nio.file.Files;
import java.nio.file.Path;
import java.util.ArrayList;
import java.util.List;

/** The example of README.md, line by line, with the answers that it tells, and the calls of its tables. */
public final class ReadmeTest extends HouseTest {
  private static final String[] EXAMPLE = {
    "SlabHouse house = new SlabHouse();",
    "int cache = house.cache(104, 16, 0, 7);",
    "int address = house.allocate(cache, 0);",
    "int was = house.mark(address, 9);",
    "house.mark(address, 7);",
    "house.free(address, 0);",
    "house.flush(0);",
    "house.reap();",
    "house.drop(cache);",
  };
  private static final String[] TOLD = {
    "cache(size, align, order, tag)", "drop(cache)", "allocate(cache, processor)", "free(address, processor)",
    "mark(address, mark)", "flush(processor)", "empty(cache)", "reap()", "cacheOf(address)", "objectOf(address)",
    "about(cache, what)", "list(cache, which, k)", "slab(address, what)", "magazine(cache, processor, what)",
    "block(order, k)", "pages(what)",
  };

  public static void main(String[] args) throws IOException {
    List<String> readme = Files.readAllLines(Path.of("README.md"));
    requireSame("the example", List.of(EXAMPLE), exampleOf(readme));
    requireSame("the tables", List.of(TOLD), callsOf(readme));
    exampleAnswersAsTold();
    end();
  }

  private static void exampleAnswersAsTold() {
    begin("the example");
    due(0, "cache", 104, 16, 0, 7);
    due(0, "allocate", 0, 0);
    due(7, "mark", 0, 9);
    due(STATE, "free", 0, 0);
    due(9, "mark", 0, 7);
    due(0, "free", 0, 0);
    due(1, "magazine", 0, 0, 0);
    due(1, "flush", 0);
    due(1, "reap");
    due(0, "drop", 0);
    due(1, "cache", 104, 16, 0, 7);
  }

  /** The code of the one Java block, without its comments. */
  private static List<String> exampleOf(List<String> readme) {
    List<String> found = new ArrayList<>();
    int from = readme.indexOf("```java") + 1;
    for (int i = from; i < readme.size() && !readme.get(i).equals("```"); i++) {
      found.add(readme.get(i).split("//")[0].strip());
    }
    return found;
  }

  private static List<String> callsOf(List<String> readme) {
    List<String> found = new ArrayList<>();
    for (String line : readme) {
      if (line.startsWith("| `")) {
        found.add(line.split("`")[1]);
      }
    }
    return found;
  }

  private static void requireSame(String name, List<String> want, List<String> got) {
    if (!want.equals(got)) {
      System.out.println("README.md: " + name + " reads " + got + ", tested is " + want);
      System.exit(1);
    }
  }
}
