import java.lang.reflect.Method;
import java.nio.file.Files;
import java.nio.file.Path;
import java.nio.file.Paths;
import java.util.List;
import java.util.regex.Matcher;
import java.util.regex.Pattern;
import java.util.stream.Collectors;
import java.util.stream.Stream;

/** README.md tells how it is: its example answers as it says, and its tables name every test and every class. */
public final class ReadmeTest extends Checks {
  private static final Pattern CALL = Pattern.compile("x\\.(\\w+)\\((.*)\\);(?: *// (-?\\d+):.*)?.*");

  public static void main(String[] args) throws Exception {
    about = "README.md";
    List<String> lines = Files.readAllLines(Paths.get("README.md"));
    example(lines);
    String text = String.join("\n", lines);
    namesAllOf(text, testFiles());
    for (Class<?> c : LastCatch.class.getDeclaredClasses()) is("names the class " + c.getSimpleName(), text.contains("`" + c.getSimpleName() + "`"), true);
    System.out.println(checks + " checks, " + wrong + " wrong");
    if (wrong != 0) System.exit(1);
  }

  /** Plays the example's calls; of those that tell an answer it must be the one. */
  private static void example(List<String> lines) throws Exception {
    LastCatch x = new LastCatch();
    int answers = 0;
    for (String line : lines) {
      Matcher m = CALL.matcher(line);
      if (!m.matches()) continue;
      String[] words = m.group(2).isEmpty() ? new String[0] : m.group(2).split(", *");
      Object[] args = new Object[words.length];
      for (int i = 0; i < words.length; i++) args[i] = Integer.decode(words[i]);
      Object got = methodOf(m.group(1)).invoke(x, args);
      if (m.group(3) == null) continue;
      answers++;
      is(line, (Integer) got, Integer.parseInt(m.group(3)));
    }
    is("the example tells answers", answers > 0, true);
    is("the example's text is right", x.fault(), LastCatch.NONE);
  }

  private static Method methodOf(String name) {
    for (Method m : LastCatch.class.getDeclaredMethods()) if (m.getName().equals(name)) return m;
    throw new IllegalStateException("the example calls " + name);
  }

  private static List<String> testFiles() throws Exception {
    try (Stream<Path> files = Files.list(Paths.get("src/test/java"))) {
      return files.map(p -> p.getFileName().toString()).sorted().collect(Collectors.toList());
    }
  }

  private static void namesAllOf(String text, List<String> files) {
    for (String f : files) is("names " + f, text.contains(f), true);
    Matcher m = Pattern.compile("(\\w+\\.java)").matcher(text);
    while (m.find()) is("there is a " + m.group(1), files.contains(m.group(1)) || m.group(1).equals("LastCatch.java"), true);
  }
}
