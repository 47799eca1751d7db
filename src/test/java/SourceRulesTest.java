import java.io.IOException;
import java.lang.reflect.Method;
import java.lang.reflect.Modifier;
import java.nio.file.Files;
import java.nio.file.Path;
import java.util.ArrayList;
import java.util.HashSet;
import java.util.List;
import java.util.Set;
import java.util.regex.Matcher;
import java.util.regex.Pattern;

/** What of ../shared/LANGUAGE.md can be told by a look at the source and at the compiled class; run it in the root. */
public final class SourceRulesTest {
  private static final Set<String> FACE = Set.of(
      "row", "set", "copy", "drop", "feed", "page", "fault", "write", "turn", "undo", "at", "letter", "light", "damp",
      "read", "behind", "ways", "anew", "fits", "harm", "leastHarm", "safe", "over", "image", "restore", "kind", "as",
      "ask", "trace", "count", "status");
  private static final Set<String> CONSTANTS = Set.of("NONE", "BAD", "STATE", "FULL");
  private static final int MOST_LINES = 60, MOST_DEEP = 8, MOST_CLASSES = 12, MOST_FIELDS = 20, MOST_PARAMETERS = 7;

  private static int wrong = 0;

  private static void check(boolean holds, String rule) {
    if (!holds) {
      wrong++;
      System.out.println("against " + rule);
    }
  }

  private static String bare(String source) {
    return source.replaceAll("(?s)/\\*.*?\\*/", "").replaceAll("//[^\n]*", "").replaceAll("\"[^\"\n]*\"", "\"\"");
  }

  private static void words(String bare) {
    String[] never = {
      "throw", "throws", "try", "catch", "synchronized", "assert", "import", "package", "var",
      "System\\.(?!arraycopy)", "hashCode", "\\w+Exact", "->", "::", "@\\w+"
    };
    for (String word : never) {
      Matcher m = Pattern.compile(word.matches("[a-z]+") ? "\\b" + word + "\\b" : word).matcher(bare);
      check(!m.find(), "the rules: " + word);
    }
    check(!Pattern.compile("\"\"\\s*\\+|\\+\\s*\"\"").matcher(bare).find(), "rule 10: texts joined by +");
    check(bare.chars().allMatch(c -> c < 128), "rule 4: signs 1 to 127");
  }

  private static List<Class<?>> classes() {
    List<Class<?>> all = new ArrayList<>(List.of(LightSheets.class.getDeclaredClasses()));
    all.add(LightSheets.class);
    return all;
  }

  private static void face() {
    Set<String> seen = new HashSet<>();
    for (Method m : LightSheets.class.getDeclaredMethods()) {
      if (Modifier.isPublic(m.getModifiers())) {
        seen.add(m.getName());
      } else {
        check(Modifier.isPrivate(m.getModifiers()) || m.isSynthetic(), "rule 1: " + m);
      }
    }
    check(seen.equals(FACE), "rule 1: the face, " + seen);
    for (var f : LightSheets.class.getDeclaredFields()) {
      boolean isPublic = Modifier.isPublic(f.getModifiers());
      check(isPublic == CONSTANTS.contains(f.getName()), "rule 1: " + f);
      check(isPublic || Modifier.isPrivate(f.getModifiers()), "rule 1: " + f);
    }
    check(Modifier.isFinal(LightSheets.class.getModifiers()), "rule 1: the class is final");
    check(LightSheets.class.getConstructors().length == 1, "rule 1: one constructor");
  }

  private static void inside() {
    check(classes().size() <= MOST_CLASSES, "rule 11: classes");
    for (Class<?> c : classes()) {
      int fields = 0;
      for (var f : c.getDeclaredFields()) {
        boolean isStatic = Modifier.isStatic(f.getModifiers());
        check(!isStatic || Modifier.isFinal(f.getModifiers()), "rule 5: " + f);
        fields += isStatic ? 0 : 1;
      }
      check(fields <= MOST_FIELDS, "rule 11: fields of " + c);
      check(c == LightSheets.class || Modifier.isStatic(c.getModifiers()), "rule 2: " + c);
      check(c.getDeclaredClasses().length == 0 || c == LightSheets.class, "rule 2: classes in " + c);
      for (Method m : c.getDeclaredMethods()) {
        check(m.getParameterCount() <= MOST_PARAMETERS, "rule 11: " + m);
        check(c == LightSheets.class || !FACE.contains(m.getName()), "rule 1: " + m);
      }
    }
  }

  /** The bodies of the methods, by name, as the text has them (all methods have names of their own). */
  private static java.util.Map<String, String> bodies(String bare) {
    java.util.Map<String, String> bodies = new java.util.HashMap<>();
    Matcher m = Pattern.compile("(?m)^ {4,8}(?:public |private |static )*[\\w\\[\\]]+ (\\w+)\\([^)]*\\) \\{$").matcher(bare);
    while (m.find()) {
      int end = m.end(), open = 1;
      while (open > 0) {
        char c = bare.charAt(end++);
        open += c == '{' ? 1 : c == '}' ? -1 : 0;
      }
      String body = bare.substring(m.end(), end);
      check(body.lines().count() <= MOST_LINES, "rule 11: length of " + m.group(1));
      bodies.merge(m.group(1), body, String::concat);
    }
    return bodies;
  }

  private static int depth(String name, java.util.Map<String, String> bodies, int open) {
    if (open > 40) {
      check(false, "rule 8: " + name + " comes back to itself");
      return 0;
    }
    int deepest = 0;
    Matcher m = Pattern.compile("(\\w+)\\(").matcher(bodies.get(name));
    while (m.find()) {
      if (bodies.containsKey(m.group(1))) {
        deepest = Math.max(deepest, depth(m.group(1), bodies, open + 1));
      }
    }
    return deepest + 1;
  }

  private static void methods(String bare) {
    var bodies = bodies(bare);
    check(bodies.keySet().containsAll(FACE), "this test: it must find every method");
    for (String name : FACE) {
      int depth = depth(name, bodies, 0);
      check(depth <= MOST_DEEP, "rule 11: " + name + " goes " + depth + " deep");
    }
  }

  public static void main(String[] args) throws IOException {
    String bare = bare(Files.readString(Path.of("src/main/java/LightSheets.java")));
    words(bare);
    face();
    inside();
    methods(bare);
    System.out.println(wrong == 0 ? "the source keeps to the rules" : wrong + " rules are broken");
    if (wrong != 0) {
      System.exit(1);
    }
  }
}
