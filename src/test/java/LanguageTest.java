import java.lang.reflect.Constructor;
import java.lang.reflect.Field;
import java.lang.reflect.Method;
import java.lang.reflect.Modifier;
import java.nio.file.Files;
import java.nio.file.Path;
import java.util.Arrays;
import java.util.List;
import java.util.Set;
import java.util.TreeSet;
import java.util.regex.Matcher;
import java.util.regex.Pattern;
import java.util.stream.Collectors;

/** The face as the document writes it, and the rules of LANGUAGE.md that can be seen from the outside or the text. */
public final class LanguageTest {
  private static final Path SOURCE = Path.of("src/main/java/Routetable.java");
  private static final Path DOCUMENT = Path.of("../shared/DOC.md");
  private static final int MOST_CLASSES = 12;
  private static final int MOST_FIELDS = 20;
  private static final int MOST_PARAMETERS = 7;
  private static final int MOST_LINES = 60;

  private static int wrong = 0;

  public static void main(String[] args) throws Exception {
    String source = Files.readString(SOURCE);
    face();
    members(Routetable.class, true);
    for (Class<?> inside : Routetable.class.getDeclaredClasses()) {
      check("rule 1: " + inside + " is static and not public",
          Modifier.isStatic(inside.getModifiers()) && !Modifier.isPublic(inside.getModifiers()));
      members(inside, false);
    }
    check("rule 11: classes", Routetable.class.getDeclaredClasses().length + 1 <= MOST_CLASSES);
    words(source);
    library(source);
    methodLengths(source);
    System.out.println(wrong == 0 ? "the rules are kept" : wrong + " rules are broken");
    if (wrong > 0) {
      System.exit(1);
    }
  }

  private static void check(String what, boolean isSo) {
    if (!isSo) {
      wrong++;
      System.out.println("not so: " + what);
    }
  }

  // ---- the face

  private static void face() throws Exception {
    String document = Files.readString(DOCUMENT);
    String block = document.substring(document.indexOf("```java"), document.indexOf("}\n```"));
    Set<String> want = new TreeSet<>();
    Matcher line = Pattern.compile("public (\\S+) (\\w+)\\((.*?)\\)(?: throws ([^;]*))?;").matcher(block);
    while (line.find()) {
      String types = Arrays.stream(line.group(3).split(", ")).map(each -> each.split(" ")[0])
          .collect(Collectors.joining(","));
      String thrown = line.group(4) == null ? "" : line.group(4).replace(", ", ",");
      want.add(line.group(1) + " " + line.group(2) + "(" + types + ")" + thrown);
    }
    Set<String> got = new TreeSet<>();
    for (Method method : Routetable.class.getDeclaredMethods()) {
      if (!Modifier.isPrivate(method.getModifiers())) {
        String types = namesOf(method.getParameterTypes());
        got.add(method.getReturnType().getSimpleName() + " " + method.getName() + "(" + types + ")"
            + namesOf(method.getExceptionTypes()));
        check("rule 1: public " + method, method.getModifiers() == Modifier.PUBLIC);
      }
    }
    check("the face: " + want + " is " + got, want.equals(got) && want.size() == 42);
    check("public and final", Modifier.isPublic(Routetable.class.getModifiers())
        && Modifier.isFinal(Routetable.class.getModifiers()));
    Constructor<?>[] constructors = Routetable.class.getDeclaredConstructors();
    check("one public constructor", constructors.length == 1 && constructors[0].getParameterCount() == 0
        && Modifier.isPublic(constructors[0].getModifiers()));
  }

  private static String namesOf(Class<?>[] types) {
    return Arrays.stream(types).map(Class::getSimpleName).collect(Collectors.joining(","));
  }

  // ---- rules 1, 5 and 11: members

  private static void members(Class<?> of, boolean isFace) {
    int own = 0;
    for (Field field : of.getDeclaredFields()) {
      boolean isStatic = Modifier.isStatic(field.getModifiers());
      own += isStatic ? 0 : 1;
      check("rule 5: " + field, !isStatic || Modifier.isFinal(field.getModifiers()));
      check("rule 1: " + field, !isFace || Modifier.isPrivate(field.getModifiers()));
    }
    check("rule 11: fields of " + of, own <= MOST_FIELDS);
    Set<String> face = Arrays.stream(Routetable.class.getMethods())
        .filter(each -> each.getDeclaringClass() == Routetable.class).map(Method::getName)
        .collect(Collectors.toSet());
    for (Method method : of.getDeclaredMethods()) {
      boolean isPublic = isFace && Modifier.isPublic(method.getModifiers());
      check("rule 1: the name of " + method, isPublic || !face.contains(method.getName()));
      check("rule 11: the parameters of " + method, method.getParameterCount() <= MOST_PARAMETERS);
    }
  }

  // ---- rules 3, 4, 6, 10, 12 and 13: words

  private static void words(String source) {
    String code = source.replaceAll("//.*", "").replaceAll("(?s)/\\*.*?\\*/", "");
    for (String word : List.of("->", "::", "\\bcatch\\b", "\\bfinally\\b", "\\bsynchronized\\b", "\\bassert\\b",
        "Exact\\(", "\\bpackage\\b", "\\bequals\\(", "hashCode", "\\bObject\\b", "\\bvar\\b", "\\bfloat\\b",
        "\\bdouble\\b", "System\\.", "Thread", "Random", "String\\.", "\"[^\"\n]*\" *\\+", "\\+ *\"", "while *\\(true",
        "for *\\(;;", "for *\\([^;]*:[^;]*\\)", "@")) {
      check("the text is without " + word, !Pattern.compile(word).matcher(code).find());
    }
    check("rule 4: signs 1 to 127", source.chars().allMatch(each -> each > 0 && each < 128));
    Matcher thrown = Pattern.compile("\\bthrow\\b[^;]*").matcher(code);
    while (thrown.find()) {
      check("rule 6: " + thrown.group(), thrown.group().matches(
          "throw new (IllegalState|IllegalArgument|IndexOutOfBounds)Exception\\((\"[^\"]*\")?\\)"));
    }
  }

  private static void library(String source) {
    Matcher imported = Pattern.compile("import ([^;]*);").matcher(source);
    while (imported.find()) {
      check("rule 4: " + imported.group(), Set.of("java.util.ArrayList").contains(imported.group(1)));
    }
    Matcher math = Pattern.compile("\\b(Math|Integer|Long)\\.(\\w+)").matcher(source);
    while (math.find()) {
      check("rule 4: " + math.group(), Set.of("min", "max", "bitCount").contains(math.group(2)));
    }
    Matcher onSigns = Pattern.compile("\\bsigns\\.(\\w+)").matcher(source);
    while (onSigns.find()) {
      check("rule 4: " + onSigns.group(), Set.of("append", "setLength", "length", "toString").contains(onSigns.group(1)));
    }
    Matcher put = Pattern.compile("\\bsigns\\.append\\(([^;]*)\\);").matcher(source);
    while (put.find()) {
      check("rule 12: a number is put by its digits, not by " + put.group(),
          put.group(1).matches("'.'|\"[^\"]*\"|\\(char\\) .*"));
    }
    Matcher onEntries = Pattern.compile("\\bentries\\.(\\w+)").matcher(source);
    while (onEntries.find()) {
      check("rule 4: " + onEntries.group(),
          Set.of("add", "get", "remove", "size", "clear").contains(onEntries.group(1)));
    }
  }

  // ---- rule 11: short methods

  private static void methodLengths(String source) {
    Pattern start = Pattern.compile("( +)(?:public |private |static |final )*[\\w\\[\\]<>]+ \\w+\\(.*\\)(?: throws .*)? \\{");
    String[] lines = source.replaceAll("\n +throws", " throws").split("\n");
    for (int i = 0; i < lines.length; i++) {
      Matcher head = start.matcher(lines[i]);
      if (head.matches()) {
        int end = i;
        while (end < lines.length && !lines[end].equals(head.group(1) + "}")) {
          end++;
        }
        check("rule 11: the length of" + lines[i], end - i < MOST_LINES);
      }
    }
  }
}
