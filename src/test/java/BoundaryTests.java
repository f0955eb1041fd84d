import java.lang.reflect.InvocationTargetException;
import java.lang.reflect.Method;
import java.nio.charset.StandardCharsets;
import java.nio.file.Files;
import java.nio.file.Path;
import java.util.BitSet;
import java.util.Comparator;
import java.util.List;
import java.util.Set;
import java.util.TreeMap;
import java.util.TreeSet;

/**
 * For each sentence of the document that names a boundary case, a test of its own: a method that is named by its
 * promise and says the document's words. Words that the document does not have are refused, and so is a promise
 * without a test. With -Dshow=true the words of the document that no test says are printed.
 */
public final class BoundaryTests extends Bench {
  private static final List<Class<?>> PARTS = List.of(BoundaryTexts.class, BoundarySigns.class, BoundaryWords.class,
      BoundaryGrid.class, BoundaryNames.class);
  private static final int PROMISES = 39;

  private static TreeMap<String, Method> tests() {
    TreeMap<String, Method> tests = new TreeMap<>(Comparator.naturalOrder());
    for (Class<?> part : PARTS)
      for (Method m : part.getDeclaredMethods()) {
        if (m.isSynthetic() || !m.isAnnotationPresent(Says.class)) continue;
        if (!m.getName().matches("promise\\d\\d_.+")) throw new IllegalStateException("not named by a promise: " + m);
        if (tests.put(m.getName(), m) != null) throw new IllegalStateException("two tests of one name: " + m);
      }
    return tests;
  }

  private static String plain(String text) { return text.replaceAll("[`#*]", "").replaceAll("\\s+", " "); }

  private static void run(Method test) throws IllegalAccessException {
    int before = right + wrong;
    now = test.getName().substring(0, 9).replace("promise", "promise ") + ", " + test.getName().substring(10)
        + " (" + String.join(" .. ", test.getAnnotation(Says.class).value()) + ")";
    try {
      test.invoke(null);
    } catch (InvocationTargetException e) {
      wrong++;
      System.out.println(now + ": threw " + e.getCause());
    }
    if (right + wrong == before) { wrong++; System.out.println(now + ": tests nothing"); }
  }

  private static void look(String document, Method test, BitSet said) {
    for (String words : test.getAnnotation(Says.class).value()) {
      int at = document.indexOf(plain(words));
      if (at < 0) { wrong++; System.out.println(test.getName() + " says what the document does not: " + words); }
      for (; at >= 0; at = document.indexOf(plain(words), at + 1)) said.set(at, at + plain(words).length());
    }
  }

  private static void showUnsaid(String document, BitSet said) {
    int from = document.indexOf("The constants:"), terms = document.indexOf("Terms");
    System.out.println("from " + Math.min(from, terms) + " on, no test says:");
    for (int at = said.nextClearBit(Math.min(from, terms)); at < document.length(); ) {
      int end = said.nextSetBit(at);
      if (end < 0) end = document.length();
      if (end - at > 3) System.out.println("  " + document.substring(at, end).trim());
      at = said.nextClearBit(end);
    }
  }

  public static void main(String[] args) throws Exception {
    String document = plain(Files.readString(Path.of("../shared/DOC.md"), StandardCharsets.UTF_8));
    BitSet said = new BitSet();
    Set<Integer> promises = new TreeSet<>();
    TreeMap<String, Method> tests = tests();
    for (Method test : tests.values()) {
      promises.add(Integer.parseInt(test.getName().substring(7, 9)));
      look(document, test, said);
      run(test);
    }
    for (int p = 1; p <= PROMISES; p++) if (!promises.contains(p)) { wrong++; System.out.println("promise " + p + " has no test"); }
    if (Boolean.getBoolean("show")) showUnsaid(document, said);
    System.out.println(tests.size() + " boundary tests: " + right + " answers are as due, " + wrong + " are not");
    if (wrong != 0) System.exit(1);
  }
}
