import java.io.File;
import java.lang.reflect.InvocationTargetException;
import java.net.URL;
import java.net.URLClassLoader;
import java.nio.file.Files;
import java.nio.file.Path;
import java.util.List;
import java.util.regex.Matcher;
import java.util.regex.Pattern;
import javax.tools.ToolProvider;

/** What README.md shows compiles, answers as it says there, and it names every call of the face. */
public final class ReadmeExample {
  private static final Pattern BLOCK = Pattern.compile("```java\n(.*?)```", Pattern.DOTALL);
  /** A call with the answer that README.md says behind it. */
  private static final Pattern ANSWERED = Pattern.compile("(x\\..*\\));\\s+// (-?\\d+|true|false)\\b.*");

  private static int answers = 0;

  private static String withDues(String example) {
    StringBuilder b = new StringBuilder();
    for (String line : example.split("\n")) {
      Matcher m = ANSWERED.matcher(line);
      if (!m.matches()) {
        if (line.contains("//")) throw new IllegalStateException("no answer to be seen in: " + line);
        b.append(line).append('\n');
        continue;
      }
      answers++;
      b.append("due(\"").append(m.group(1).replace("\"", "\\\"")).append("\", ").append(m.group(1)).append(", ").append(m.group(2)).append(");\n");
    }
    return b.toString();
  }

  private static String source(String helper, String example) {
    return "public final class ReadmeRun {\n"
        + "  private static int wrong = 0;\n"
        + "  private static void due(String call, Object got, Object want) {\n"
        + "    if (!got.equals(want)) { wrong++; System.out.println(call + \" answered \" + got + \", README.md says \" + want); }\n"
        + "  }\n" + helper + "  public static int run() {\n" + withDues(example) + "    return wrong;\n  }\n}\n";
  }

  private static int runIn(Path folder, String text) throws Exception {
    Path file = folder.resolve("ReadmeRun.java");
    Files.writeString(file, text);
    String classes = System.getProperty("java.class.path");
    if (ToolProvider.getSystemJavaCompiler().run(null, null, null, "-cp", classes, "-d", folder.toString(), file.toString()) != 0) return 1;
    try (URLClassLoader loader = new URLClassLoader(new URL[] {folder.toUri().toURL()}, ReadmeExample.class.getClassLoader())) {
      return (Integer) loader.loadClass("ReadmeRun").getMethod("run").invoke(null);
    } catch (InvocationTargetException e) {
      System.out.println("README.md's lines threw " + e.getCause());
      return 1;
    }
  }

  private static int unnamedCalls(String readme) {
    int unnamed = 0;
    for (java.lang.reflect.Method m : UnreadSigns.class.getDeclaredMethods()) {
      boolean ofFace = java.lang.reflect.Modifier.isPublic(m.getModifiers());
      if (!ofFace || readme.contains("`" + m.getName() + "`")) continue;
      unnamed++;
      System.out.println("README.md does not name " + m.getName());
    }
    return unnamed;
  }

  public static void main(String[] args) throws Exception {
    String readme = Files.readString(Path.of("README.md"));
    List<String> blocks = BLOCK.matcher(readme).results().map(r -> r.group(1)).toList();
    if (blocks.size() != 2) throw new IllegalStateException("README.md has a helper and an example: " + blocks.size());
    Path folder = Files.createTempDirectory("readme");
    int wrong;
    try {
      wrong = runIn(folder, source(blocks.get(0), blocks.get(1))) + unnamedCalls(readme);
    } finally {
      for (File f : folder.toFile().listFiles()) f.delete();
      Files.delete(folder);
    }
    if (answers == 0) wrong++;
    System.out.println(answers + " answers of README.md, " + wrong + " things are wrong");
    if (wrong != 0) System.exit(1);
  }
}
