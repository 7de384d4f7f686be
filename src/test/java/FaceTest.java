import java.io.IOException;
import java.lang.reflect.Constructor;
import java.lang.reflect.Field;
import java.lang.reflect.Method;
import java.lang.reflect.Modifier;
import java.nio.file.Files;
import java.nio.file.Path;
import java.util.ArrayList;
import java.util.Arrays;
import java.util.List;
import java.util.TreeSet;

/** The public face is the document's and no more; what LANGUAGE.md rules out is not in the file. */
public final class FaceTest {
  private static final String[] FACE = {
    "public SlabHouse()",
    "public static final int SlabHouse.NONE",
    "public int SlabHouse.cache(int,int,int,int) throws java.lang.IllegalArgumentException",
    "public int SlabHouse.drop(int) throws java.util.NoSuchElementException,java.lang.IllegalStateException",
    "public int SlabHouse.allocate(int,int) throws java.util.NoSuchElementException,java.lang.IllegalArgumentException",
    "public int SlabHouse.free(int,int) throws java.util.NoSuchElementException,java.lang.IllegalArgumentException,"
        + "java.lang.IllegalStateException",
    "public int SlabHouse.mark(int,int) throws java.util.NoSuchElementException",
    "public int SlabHouse.flush(int) throws java.lang.IllegalArgumentException",
    "public int SlabHouse.empty(int) throws java.util.NoSuchElementException",
    "public int SlabHouse.reap()",
    "public int SlabHouse.cacheOf(int)",
    "public int SlabHouse.objectOf(int)",
    "public int SlabHouse.about(int,int) throws java.util.NoSuchElementException,java.lang.IllegalArgumentException",
    "public int SlabHouse.list(int,int,int) throws java.util.NoSuchElementException,java.lang.IllegalArgumentException",
    "public int SlabHouse.slab(int,int) throws java.util.NoSuchElementException,java.lang.IllegalArgumentException",
    "public int SlabHouse.magazine(int,int,int) throws java.util.NoSuchElementException,"
        + "java.lang.IllegalArgumentException",
    "public int SlabHouse.block(int,int) throws java.lang.IllegalArgumentException",
    "public int SlabHouse.pages(int)",
  };
  private static final String[] RULED_OUT = {
    "try", "catch", "finally", "synchronized", "assert", "->", "::", "Exact(", "hashCode", "toString", "System.",
    "protected", "public class", "record ", "static {", "Object",
  };
  private static int wrong = 0;

  public static void main(String[] args) throws IOException {
    check(SlabHouse.NONE == -1, "NONE is not -1");
    check(Modifier.toString(SlabHouse.class.getModifiers()).equals("public final"), "the class is not public final");
    compareFace();
    checkNestedClasses();
    checkLimits();
    String source = Files.readString(Path.of("src/main/java/SlabHouse.java"));
    for (String word : RULED_OUT) {
      check(!source.contains(word), "the file has '" + word + "'");
    }
    System.out.println(wrong == 0 ? "the face is as due" : wrong + " faults of the face");
    if (wrong != 0) {
      System.exit(1);
    }
  }

  private static void check(boolean holds, String fault) {
    if (!holds) {
      wrong++;
      System.out.println(fault);
    }
  }

  private static void compareFace() {
    List<String> open = new ArrayList<>();
    for (Constructor<?> constructor : SlabHouse.class.getDeclaredConstructors()) {
      addOpen(open, constructor.getModifiers(), constructor.toGenericString());
    }
    for (Field field : SlabHouse.class.getDeclaredFields()) {
      addOpen(open, field.getModifiers(), field.toGenericString());
    }
    for (Method method : SlabHouse.class.getDeclaredMethods()) {
      addOpen(open, method.getModifiers(), method.toGenericString());
    }
    TreeSet<String> missing = new TreeSet<>(Arrays.asList(FACE));
    missing.removeAll(open);
    check(missing.isEmpty(), "not in the class: " + missing);
    TreeSet<String> more = new TreeSet<>(open);
    more.removeAll(Arrays.asList(FACE));
    check(more.isEmpty(), "not in the document: " + more);
  }

  private static void addOpen(List<String> open, int modifiers, String text) {
    if (!Modifier.isPrivate(modifiers)) {
      open.add(text);
    }
  }

  private static void checkLimits() {
    TreeSet<String> publicNames = publicNames();
    for (Method method : SlabHouse.class.getDeclaredMethods()) {
      boolean hidden = Modifier.isPrivate(method.getModifiers());
      check(!hidden || !publicNames.contains(method.getName()), method + " bears the name of a public one");
    }
    List<Class<?>> all = new ArrayList<>(Arrays.asList(SlabHouse.class.getDeclaredClasses()));
    all.add(SlabHouse.class);
    for (Class<?> type : all) {
      for (Field field : type.getDeclaredFields()) {
        boolean changes = Modifier.isStatic(field.getModifiers()) && !Modifier.isFinal(field.getModifiers());
        check(!changes, field + " is static and not final");
      }
      for (Method method : type.getDeclaredMethods()) {
        check(method.getParameterCount() <= 7, method + " takes more than seven parameters");
      }
    }
  }

  private static TreeSet<String> publicNames() {
    TreeSet<String> names = new TreeSet<>();
    for (Method method : SlabHouse.class.getDeclaredMethods()) {
      if (Modifier.isPublic(method.getModifiers())) {
        names.add(method.getName());
      }
    }
    return names;
  }

  private static void checkNestedClasses() {
    TreeSet<String> names = publicNames();
    Class<?>[] nested = SlabHouse.class.getDeclaredClasses();
    check(nested.length < 12, "more than some twelve classes");
    for (Class<?> type : nested) {
      check(Modifier.isStatic(type.getModifiers()), type + " is not static");
      check(!Modifier.isPublic(type.getModifiers()), type + " is public");
      check(type.getDeclaredFields().length <= 20, type + " has more than some twenty fields");
      for (Method method : type.getDeclaredMethods()) {
        check(!names.contains(method.getName()), method + " bears the name of a public one");
      }
    }
  }
}
