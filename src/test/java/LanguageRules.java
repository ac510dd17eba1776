import java.lang.reflect.Constructor;
import java.lang.reflect.Field;
import java.lang.reflect.Method;
import java.lang.reflect.Modifier;
import java.nio.file.Files;
import java.nio.file.Paths;
import java.util.ArrayList;
import java.util.Arrays;
import java.util.List;
import java.util.Set;
import java.util.TreeSet;

/** The rules of LANGUAGE.md that a look at the source and at the compiled classes can tell. */
public final class LanguageRules {
  private static int wrong = 0;

  private static void must(boolean is, String what) {
    if (!is) { wrong++; System.out.println(what); }
  }

  private static final String FACE = "feed end waters law fault cell fish boat buyer dead days heads ice sponge pay tell release current sell where meets lost haul first eddy "
    + "whose parted fewest turned ask sale without order chase pairs rests odds freshest dearest kind twins slab sea gone spoils trial span led log seed undo image back count";

  public static void main(String[] args) throws Exception {
    face();
    classes();
    source(Files.readAllLines(Paths.get("src/main/java/LastCatch.java")));
    System.out.println(wrong == 0 ? "the rules are kept" : wrong + " rules are broken");
    if (wrong != 0) System.exit(1);
  }

  private static void face() {
    Set<String> face = new TreeSet<>(Arrays.asList(FACE.split(" ")));
    Set<String> found = new TreeSet<>();
    for (Method m : LastCatch.class.getDeclaredMethods()) {
      if (m.isSynthetic()) continue;
      if (Modifier.isPublic(m.getModifiers())) found.add(m.getName());
      else must(Modifier.isPrivate(m.getModifiers()) && !face.contains(m.getName()), "rule 1: " + m);
    }
    must(found.equals(face), "rule 1: the public methods are " + found);
    must(Modifier.isFinal(LastCatch.class.getModifiers()), "rule 1: final");
    for (Field f : LastCatch.class.getDeclaredFields()) {
      must(Modifier.isPrivate(f.getModifiers()) || f.getName().equals("NONE"), "rule 1: " + f);
    }
    for (Constructor<?> c : LastCatch.class.getDeclaredConstructors()) must(c.getParameterCount() == 0, "rule 1: " + c);
  }

  private static void classes() {
    List<Class<?>> all = new ArrayList<>(Arrays.asList(LastCatch.class.getDeclaredClasses()));
    must(all.size() < 12, "rule 11: classes " + all.size());
    for (Class<?> c : all) must(Modifier.isStatic(c.getModifiers()), "rule 2: " + c);
    all.add(LastCatch.class);
    Set<String> face = new TreeSet<>(Arrays.asList(FACE.split(" ")));
    for (Class<?> c : all) {
      int fields = 0;
      for (Field f : c.getDeclaredFields()) {
        if (!Modifier.isStatic(f.getModifiers())) fields++;
        else must(Modifier.isFinal(f.getModifiers()) && f.getType().isPrimitive(), "rule 5: " + f);
      }
      must(fields <= 20, "rule 11: fields of " + c + ": " + fields);
      for (Method m : c.getDeclaredMethods()) {
        must(m.getParameterCount() <= 7, "rule 11: " + m);
        must(!Modifier.isPrivate(m.getModifiers()) || !face.contains(m.getName()), "rule 1: " + m);
      }
    }
  }

  private static void source(List<String> lines) {
    String[] never = {"->", "::", "catch (", "finally", "synchronized", "assert ", "instanceof", "Exact(", "native ", "double", "float", "System.out", "getMessage", "enum ",
      "hashCode", "toString", "Object", "Thread", "Random", "nanoTime", "Millis", "String[]", "while (true)", "for (;;)"};
    int open = 0;
    for (int i = 0; i < lines.size(); i++) {
      String line = lines.get(i);
      String code = line.contains("//") ? line.substring(0, line.indexOf("//")) : line;
      if (code.trim().startsWith("/**")) continue;
      for (String n : never) must(!code.contains(n), "line " + (i + 1) + ": " + n);
      if (code.startsWith("import")) must(code.equals("import java.util.Arrays;") || code.equals("import java.util.NoSuchElementException;"), "rule 4: " + code);
      for (int k = 0; k < line.length(); k++) must(line.charAt(k) < 128, "line " + (i + 1) + ": not a plain sign");
      if (code.matches(" {4}( {4})?[a-zA-Z].*\\) (throws .*)?\\{")) open = i;
      if (code.matches(" {4}( {4})?\\}")) must(i - open <= 60, "rule 11: lines to " + (i + 1) + ": " + (i - open));
    }
  }
}
