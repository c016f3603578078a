import java.io.IOException;
import java.lang.reflect.Constructor;
import java.lang.reflect.Field;
import java.lang.reflect.Method;
import java.lang.reflect.Modifier;
import java.nio.file.Files;
import java.nio.file.Path;
import java.util.ArrayList;
import java.util.Arrays;
import java.util.List;
import java.util.Set;
import java.util.TreeSet;
import java.util.regex.Matcher;
import java.util.regex.Pattern;

/** The public face, and those rules of LANGUAGE.md that can be looked up in the class and in its file. */
public final class LanguageTest {
  private static final String[] FACE = {
      "int row(int,int,int)", "int set(int,int,int)", "int copy(int,int,int,int,int)", "int drop(int)", "int feed(int)",
      "int land()", "int fault()", "int walk(int,int)", "int lead(int,int,int)", "int change(int,int)",
      "int heels(int)", "int day()", "int undo()", "int person(int,int)", "int road(int,int)", "int met(int,int,int)",
      "int reach(int)", "int way(int,int)", "int led(int,int,int)", "int introduced(int,int,int)", "int forgets()",
      "int nobody(int)", "int round(int)", "int bars(int,int,int)", "int meet(int,int,int)", "int whose(int,int,int,int)",
      "long snow(int,int,int,int)", "int image(int)", "int restore(int)", "int kind(int)", "int as(int,int)",
      "int ask(int,int)", "int trace(int)", "int count(int)", "int status()"};

  private static int broken = 0;

  public static void main(String[] args) throws IOException {
    List<Class<?>> classes = new ArrayList<>();
    classes.add(FeetRoads.class);
    classes.addAll(Arrays.asList(FeetRoads.class.getDeclaredClasses()));
    face();
    names(classes);
    sizes(classes);
    source(Files.readString(Path.of(args.length > 0 ? args[0] : "src/main/java/FeetRoads.java")));
    System.out.println(broken == 0 ? "the rules are kept" : broken + " rules are broken");
    if (broken != 0) {
      System.exit(1);
    }
  }

  private static void rule(boolean kept, String what) {
    if (!kept) {
      broken++;
      System.out.println("broken: " + what);
    }
  }

  private static void face() {
    Class<?> c = FeetRoads.class;
    rule(Modifier.isFinal(c.getModifiers()) && Modifier.isPublic(c.getModifiers()), "the class is public and final");
    Set<String> methods = new TreeSet<>();
    for (Method m : c.getDeclaredMethods()) {
      if (!Modifier.isPrivate(m.getModifiers()) && !m.isSynthetic()) {
        String args = Arrays.toString(m.getParameterTypes()).replaceAll("[\\[\\] ]", "");
        methods.add(m.getReturnType() + " " + m.getName() + "(" + args + ")");
        rule(Modifier.isPublic(m.getModifiers()) && !Modifier.isStatic(m.getModifiers()), "public: " + m);
      }
    }
    rule(methods.equals(new TreeSet<>(Arrays.asList(FACE))), "the methods are the face's: " + methods);
    Set<String> constants = new TreeSet<>();
    for (Field f : c.getDeclaredFields()) {
      if (!Modifier.isPrivate(f.getModifiers()) && !f.isSynthetic()) {
        constants.add(f.getName());
        rule(Modifier.isPublic(f.getModifiers()) && Modifier.isStatic(f.getModifiers())
            && Modifier.isFinal(f.getModifiers()), "a constant: " + f);
      }
    }
    rule(constants.equals(Set.of("NONE", "BAD", "STATE", "FULL")), "the constants are the face's: " + constants);
    Constructor<?>[] constructors = c.getDeclaredConstructors();
    rule(constructors.length == 1 && constructors[0].getParameterCount() == 0
        && Modifier.isPublic(constructors[0].getModifiers()), "one public constructor");
    for (Class<?> inside : c.getDeclaredClasses()) {
      int mods = inside.getModifiers();
      rule(Modifier.isStatic(mods) && !Modifier.isPublic(mods) && !Modifier.isProtected(mods), "static: " + inside);
      rule(inside.getDeclaredClasses().length == 0, "no class inside " + inside);
    }
  }

  private static void names(List<Class<?>> classes) {
    Set<String> open = new TreeSet<>();
    for (String call : FACE) {
      open.add(call.substring(call.indexOf(' ') + 1, call.indexOf('(')));
    }
    for (Class<?> c : classes) {
      for (Method m : c.getDeclaredMethods()) {
        boolean ofTheFace = c == FeetRoads.class && Modifier.isPublic(m.getModifiers());
        rule(ofTheFace || !open.contains(m.getName()), "a name of the face is used again: " + m);
        rule(m.getParameterCount() <= 7, "at most seven parameters: " + m);
      }
    }
  }

  private static void sizes(List<Class<?>> classes) {
    rule(classes.size() <= 12, "at most twelve classes");
    for (Class<?> c : classes) {
      int fields = 0;
      for (Field f : c.getDeclaredFields()) {
        if (Modifier.isStatic(f.getModifiers())) {
          rule(Modifier.isFinal(f.getModifiers()), "static fields are final: " + f);
        } else {
          fields++;
        }
      }
      rule(fields <= 20, "at most twenty fields: " + c);
    }
  }

  private static void source(String text) {
    String code = text.replaceAll("(?s)/\\*.*?\\*/", "").replaceAll("//[^\n]*", "").replaceAll("'[^']'", "' '");
    String[] banned = {"throw", "throws", "try", "catch", "finally", "synchronized", "assert", "package", "->", "::",
        "\\w+Exact", "System\\.(?!arraycopy)", "Random", "Thread", "Object", "equals", "hashCode", "toString", "@\\w+"};
    for (String word : banned) {
      String look = word.matches("\\w+") ? "\\b" + word + "\\b" : word;
      Matcher m = Pattern.compile(look).matcher(code);
      rule(!m.find(), "not in the language: " + word);
    }
    Matcher imports = Pattern.compile("import ([^;]+);").matcher(code);
    while (imports.find()) {
      rule(List.of("java.util.Arrays", "java.util.ArrayList", "java.util.List").contains(imports.group(1)),
          "import " + imports.group(1));
    }
    int begins = -1;
    String[] lines = text.split("\n");
    for (int i = 0; i < lines.length; i++) {
      rule(lines[i].length() <= 120, "a line of over 120 signs: " + (i + 1));
      rule(lines[i].chars().allMatch(c -> c < 128), "a sign beyond 127: " + (i + 1));
      if (lines[i].matches(" +.*\\) \\{") && !lines[i].matches(" +(if|for|while|switch|\\}).*")) {
        begins = i;
      }
      if (begins >= 0 && lines[i].matches(" +\\}") && lines[i].indexOf('}') == indent(lines[begins])) {
        rule(i - begins < 60, "a method of over sixty lines: " + lines[begins].trim());
        begins = -1;
      }
    }
  }

  private static int indent(String line) {
    return line.length() - line.stripLeading().length();
  }
}
