import java.io.IOException;
import java.lang.reflect.Constructor;
import java.lang.reflect.Field;
import java.lang.reflect.Method;
import java.lang.reflect.Modifier;
import java.nio.file.Files;
import java.nio.file.Path;
import java.util.ArrayList;
import java.util.List;
import java.util.Set;
import java.util.TreeSet;
import java.util.regex.Matcher;
import java.util.regex.Pattern;

/** The document's face, and the rules of LANGUAGE.md that can be seen from outside or from the source's words. */
public final class LanguageTest {
  private static int wrong = 0;

  private static final String[] FACE = {"int feed(int,int,int,int,int)", "int back(int)", "int read()", "int place()",
      "int road(int,int)", "int ghost(int,int)", "int cost(int,int)", "int way(int,int)", "int wayAt(int,int)",
      "boolean gate(int,boolean)", "boolean rate(int)", "int mend(int)", "int nights(int)", "boolean undo()",
      "int tonight(int)", "int put(int,int,int)", "int free()", "int stop(int)", "int saves(int)", "int pays(int,int)",
      "int seen(int,int)", "int busiest(int,int)", "int best(int,int)", "int keepers(int,int)", "int breaks(int)",
      "int first(int)", "int meets(int,int)", "int cutOff(int)", "int year(int,int)", "int sheet(boolean,boolean)",
      "int tell(int,int,boolean)", "int forget()", "int who(int,int)", "int watch(int,int)", "boolean hold(int)",
      "boolean restore(int)", "int count(int)"};

  private static void say(boolean good, String what) {
    if (!good) { wrong++; System.out.println(what); }
  }

  public static void main(String[] args) throws IOException {
    face();
    for (Class<?> c : GhostPike.class.getDeclaredClasses()) inside(c);
    say(GhostPike.class.getDeclaredClasses().length + 1 <= 12, "rule 11: more than twelve classes");
    shape(GhostPike.class);
    source();
    System.out.println(wrong == 0 ? "the language is kept to" : wrong + " rules are broken");
    if (wrong != 0) System.exit(1);
  }

  private static String sign(Method m) {
    StringBuilder s = new StringBuilder(m.getReturnType().getName()).append(' ').append(m.getName()).append('(');
    for (Class<?> p : m.getParameterTypes()) s.append(s.charAt(s.length() - 1) == '(' ? "" : ",").append(p.getName());
    return s.append(')').toString();
  }

  private static void face() {
    int mods = GhostPike.class.getModifiers();
    say(Modifier.isPublic(mods) && Modifier.isFinal(mods), "rule 1: the class is not public and final");
    Set<String> face = new TreeSet<>(List.of(FACE));
    Set<String> names = new TreeSet<>();
    for (String f : FACE) names.add(f.replaceAll(".* (.*)\\(.*", "$1"));
    for (Method m : GhostPike.class.getDeclaredMethods()) {
      if (Modifier.isPublic(m.getModifiers())) say(face.remove(sign(m)), "rule 1: " + m + " is not of the face");
      else say(Modifier.isPrivate(m.getModifiers()) && !names.contains(m.getName()), "rule 1: " + m);
    }
    say(face.isEmpty(), "the face lacks " + face);
    Constructor<?>[] made = GhostPike.class.getDeclaredConstructors();
    say(made.length == 1 && Modifier.isPublic(made[0].getModifiers()) && made[0].getParameterCount() == 0, "the constructor");
    for (Field f : GhostPike.class.getDeclaredFields())
      say(Modifier.isPrivate(f.getModifiers()) != f.getName().equals("NONE"), "rule 1: " + f);
    for (Class<?> c : GhostPike.class.getDeclaredClasses())
      for (Method m : c.getDeclaredMethods()) say(!names.contains(m.getName()), "rule 1: " + m + " bears a name of the face");
  }

  private static void inside(Class<?> c) {
    int mods = c.getModifiers();
    say(Modifier.isStatic(mods) && !Modifier.isPublic(mods) && !Modifier.isProtected(mods), "rule 2: " + c);
    say(c.getDeclaredClasses().length == 0, "rule 2: a class within " + c);
    shape(c);
  }

  private static void shape(Class<?> c) {
    int fields = 0;
    for (Field f : c.getDeclaredFields()) {
      if (Modifier.isStatic(f.getModifiers())) say(Modifier.isFinal(f.getModifiers()), "rule 5: " + f); else fields++;
      Class<?> type = f.getType();
      while (type.isArray()) type = type.getComponentType();
      say(type.isPrimitive() || type == String.class || type.getName().startsWith("GhostPike"), "rule 3: " + f);
    }
    say(fields <= 20, "rule 11: " + fields + " fields in " + c);
    for (Method m : c.getDeclaredMethods()) {
      say(m.getParameterCount() <= 7, "rule 11: " + m);
      say(!m.isSynthetic(), "rule 2: " + m + " was made by the compiler");
    }
  }

  private static void source() throws IOException {
    Path path = Path.of("src/main/java/GhostPike.java");
    String all = Files.readString(path);
    String code = all.replaceAll("(?s)/\\*.*?\\*/", "").replaceAll("//[^\\n]*", "");
    say(all.chars().allMatch(c -> c == 10 || c >= 32 && c < 127), "rule 4: a sign that is not plain");
    for (String word : new String[] {"throw", "throws", "try", "catch", "synchronized", "assert", "package", "double",
        "float", "volatile", "transient", "native", "strictfp", "Object", "Thread", "Random", "Exact", "hashCode",
        "toString", "equals", "getClass", "var", "yield"})
      say(!Pattern.compile("\\b" + word + "\\b").matcher(code).find(), "rule 6: the word " + word);
    say(!code.contains("->") && !code.contains("::"), "rule 2: a lambda, a method reference");
    say(!Pattern.compile("while \\(true\\)|for \\(;;\\)").matcher(code).find(), "rule 9: a loop without an end");
    say(!Pattern.compile("\"\\s*\\+|\\+\\s*\"").matcher(code).find(), "rule 10: texts joined by +");
    Set<String> imports = new TreeSet<>();
    Matcher m = Pattern.compile("import ([\\w.]+);").matcher(code);
    while (m.find()) imports.add(m.group(1));
    say(Set.of("java.util.Arrays", "java.util.List", "java.util.ArrayList").containsAll(imports), "rule 4: " + imports);
    for (String s : tooLong(code)) say(false, "rule 11: " + s);
  }

  /** Methods of more than sixty lines. */
  private static List<String> tooLong(String code) {
    List<String> found = new ArrayList<>();
    String[] lines = code.split("\n");
    for (int i = 0; i < lines.length; i++) {
      Matcher m = Pattern.compile("^( {4}| {8})\\S.*\\) \\{$").matcher(lines[i]);
      if (!m.find()) continue;
      int end = i;
      while (end < lines.length && !lines[end].equals(m.group(1) + "}")) end++;
      if (end - i > 60) found.add(lines[i].trim() + " has " + (end - i) + " lines");
    }
    return found;
  }
}
