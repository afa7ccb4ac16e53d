import java.io.IOException;
import java.lang.reflect.Constructor;
import java.lang.reflect.Field;
import java.lang.reflect.Method;
import java.lang.reflect.Modifier;
import java.nio.file.Files;
import java.nio.file.Path;
import java.util.ArrayList;
import java.util.Arrays;
import java.util.List;
import java.util.Set;
import java.util.TreeSet;
import java.util.regex.Matcher;
import java.util.regex.Pattern;

/** The class's face as the document has it, and what of LANGUAGE.md can be seen from outside the code's meaning. */
public final class FaceRuns {
  private static final String FACE = "int beast(int,int,int,int,int) int put(int,int,int) int of(int,int) int meal(int,int)"
      + " int fast() int hunger(int,int) int bench(int) int terms(int,int) int feed(int,int,int,int,int) int end(int)"
      + " int row() int quashed() int law() int fault() int force(int) int chance(int,int,int) int price(int,int)"
      + " long odds(int) long tips(int) long bribed(int,int) int reply(int,int,int) int sure(int,int) long value(int)"
      + " int saddle(int) int enough(int,int,int) int bribe(int,int) int steady(int,int) long swing(int) int fairest()"
      + " int judged(int,int,int) int annul(int) int right(int,int) int agree(int,int,int) long again(int,int)"
      + " int trusted(int) long proof(int,int,int) int appeal(int) int sitting(int) int lay(int,int) int image(int)"
      + " int back(int) int count(int) int status()";
  private static final String[] FORBIDDEN = {"throw", "throws", "try", "catch", "finally", "synchronized", "assert",
    "protected", "package", "native", "volatile", "double", "float", "Object", "System.out", "Random", "Thread",
    "->", "::", "@", "Exact(", "var ", "record ", "hashCode", "toString"};

  private static int wrong = 0;

  private static void must(boolean so, String what) {
    if (!so) {
      wrong++;
      System.out.println(what);
    }
  }

  private static String signature(Method m) {
    StringBuilder text = new StringBuilder(m.getReturnType().getName()).append(' ').append(m.getName()).append('(');
    for (int i = 0; i < m.getParameterCount(); i++) {
      text.append(i == 0 ? "" : ",").append(m.getParameterTypes()[i].getName());
    }
    return text.append(')').toString();
  }

  private static void face() {
    Class<?> c = YardCourt.class;
    must(Modifier.isPublic(c.getModifiers()) && Modifier.isFinal(c.getModifiers()), "the class is public and final");
    Set<String> due = new TreeSet<>();
    Matcher matcher = Pattern.compile("(int|long) \\w+\\([a-z,]*\\)").matcher(FACE);
    while (matcher.find()) due.add(matcher.group());
    must(due.size() == 43, "the face has 43 methods, not " + due.size());
    Set<String> found = new TreeSet<>();
    Set<String> names = new TreeSet<>();
    for (Method m : c.getDeclaredMethods()) {
      if (Modifier.isPublic(m.getModifiers())) {
        found.add(signature(m));
        names.add(m.getName());
      }
    }
    must(found.equals(due), "public methods: " + found);
    for (Method m : c.getDeclaredMethods()) {
      boolean isPublic = Modifier.isPublic(m.getModifiers());
      must(isPublic || Modifier.isPrivate(m.getModifiers()), m + " is neither public nor private");
      must(isPublic || !names.contains(m.getName()), m + " bears the name of a public one");
      must(!isPublic || !Modifier.isStatic(m.getModifiers()), m + " is static");
    }
    for (Field f : c.getDeclaredFields()) {
      boolean isConstant = f.getName().equals("NONE") && f.getType() == int.class;
      must(Modifier.isPublic(f.getModifiers()) == isConstant, f + " is public or not as it should be");
      must(isConstant || Modifier.isPrivate(f.getModifiers()), f + " is not private");
    }
    Constructor<?>[] made = c.getDeclaredConstructors();
    must(made.length == 1 && made[0].getParameterCount() == 0 && Modifier.isPublic(made[0].getModifiers()),
        "one public constructor without parameters");
  }

  private static void inside() {
    List<Class<?>> all = new ArrayList<>(Arrays.asList(YardCourt.class.getDeclaredClasses()));
    all.add(YardCourt.class);
    must(all.size() <= 12, all.size() + " classes");
    for (Class<?> c : all) {
      must(c == YardCourt.class || Modifier.isStatic(c.getModifiers()), c + " is not static");
      must(!Modifier.isProtected(c.getModifiers()), c + " is protected");
      int fields = 0;
      for (Field f : c.getDeclaredFields()) {
        if (!Modifier.isStatic(f.getModifiers())) {
          fields++;
        } else {
          must(Modifier.isFinal(f.getModifiers()), f + " is static and not final");
          must(List.of("int", "long", "boolean", "char", "[I", "[J", "[C", "[B", "java.lang.String")
              .contains(f.getType().getName()), f + " is no constant");
        }
      }
      must(fields <= 20, c + " has " + fields + " fields");
      for (Method m : c.getDeclaredMethods()) must(m.getParameterCount() <= 7, m + " takes more than seven");
      must(c.getDeclaredClasses().length == (c == YardCourt.class ? all.size() - 1 : 0), c + " has classes inside");
    }
  }

  private static void words(String source) {
    String code = source.replaceAll("(?s)/\\*.*?\\*/", " ").replaceAll("//[^\n]*", " ").replaceAll("\"[^\"\n]*\"", "\"\"")
        .replaceAll("'.'", "' '");
    for (String word : FORBIDDEN) {
      boolean isWord = Character.isLetter(word.charAt(0)) && Character.isLetter(word.charAt(word.length() - 1));
      String pattern = isWord ? "\\b" + Pattern.quote(word) + "\\b" : Pattern.quote(word);
      must(!Pattern.compile(pattern).matcher(code).find(), "the source has " + word);
    }
    Matcher imports = Pattern.compile("import ([\\w.]+);").matcher(code);
    while (imports.find()) {
      must(List.of("java.util.Arrays", "java.util.ArrayList", "java.util.List").contains(imports.group(1)),
          "import of " + imports.group(1));
    }
    Matcher calls = Pattern.compile("\\b(Arrays|System|Math|Integer|Long)\\.(\\w+)").matcher(code);
    while (calls.find()) {
      must(List.of("fill", "copyOf", "copyOfRange", "arraycopy", "min", "max", "abs", "bitCount",
          "numberOfLeadingZeros", "numberOfTrailingZeros", "MAX_VALUE", "MIN_VALUE").contains(calls.group(2)),
          "use of " + calls.group());
    }
    must(code.chars().allMatch(sign -> sign < 127), "a sign beyond 126");
  }

  /** A method begins with a line that ends in "{" at the depth of members and ends with "}" at the same. */
  private static void lengths(String source) {
    String[] lines = source.split("\n");
    for (int indent = 2; indent <= 4; indent += 2) {
      String lead = " ".repeat(indent);
      int from = -1;
      for (int i = 0; i < lines.length; i++) {
        boolean isMember = lines[i].startsWith(lead) && lines[i].charAt(indent) != ' ';
        if (isMember && lines[i].contains("(") && lines[i].endsWith("{")) from = i;
        if (lines[i].equals(lead + "}") && from >= 0) {
          must(i - from + 1 <= 60, "long method at line " + (from + 1));
          from = -1;
        }
      }
    }
  }

  public static void main(String[] args) throws IOException {
    String source = Files.readString(Path.of(args.length > 0 ? args[0] : "src/main/java/YardCourt.java"));
    face();
    inside();
    words(source);
    lengths(source);
    System.out.println(wrong == 0 ? "the face and the language are as due" : wrong + " faults");
    if (wrong != 0) System.exit(1);
  }
}
