import java.io.IOException;
import java.lang.reflect.Method;
import java.nio.file.Files;
import java.nio.file.Path;
import java.util.regex.Matcher;
import java.util.regex.Pattern;

/** Makes the calls that README.md shows, one after another, and looks that each answers what stands behind it. */
public final class ReadmeRuns {
  private static final Pattern CALL = Pattern.compile("court\\.(\\w+)\\(([^)]*)\\);\\s*// (-?\\d+)");

  private static Object[] numbers(String list) {
    String[] texts = list.isBlank() ? new String[0] : list.split(",");
    Object[] numbers = new Object[texts.length];
    for (int i = 0; i < texts.length; i++) {
      String text = texts[i].strip();
      numbers[i] = text.equals("YardCourt.NONE") ? YardCourt.NONE : Long.decode(text).intValue();
    }
    return numbers;
  }

  private static long answer(YardCourt court, String name, Object[] numbers) throws ReflectiveOperationException {
    for (Method method : YardCourt.class.getMethods()) {
      if (method.getName().equals(name) && method.getParameterCount() == numbers.length) {
        return ((Number) method.invoke(court, numbers)).longValue();
      }
    }
    throw new NoSuchMethodException(name);
  }

  public static void main(String[] args) throws IOException, ReflectiveOperationException {
    YardCourt court = new YardCourt();
    int calls = 0;
    int wrong = 0;
    for (String line : Files.readAllLines(Path.of("README.md"))) {
      if (!line.startsWith("court.")) continue;
      Matcher matcher = CALL.matcher(line);
      boolean isCall = matcher.find();
      long got = isCall ? answer(court, matcher.group(1), numbers(matcher.group(2))) : 0;
      calls++;
      if (!isCall || got != Long.parseLong(matcher.group(3))) {
        wrong++;
        System.out.println(line + (isCall ? " answered " + got : " has no answer"));
      }
    }
    if (calls == 0) System.out.println("README.md shows no call");
    System.out.println(calls + " calls of README.md, " + wrong + " not as due");
    if (wrong != 0 || calls == 0) System.exit(1);
  }
}
