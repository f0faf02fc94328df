import java.lang.reflect.Method;
import java.nio.file.Files;
import java.nio.file.Path;
import java.util.regex.Matcher;
import java.util.regex.Pattern;

/** The calls of README.md's example, which .ci/run starts beside, answer what stands behind them there. */
public final class ReadmeTest extends Trial {
  private static final Pattern CALL = Pattern.compile("x\\.(\\w+)\\(([^)]*)\\);\\s*// (-?\\d+).*");
  private static final int FEWEST_CALLS = 25;

  private static Object[] numbers(String row) {
    if (row.isEmpty()) return new Object[0];
    String[] words = row.split(", ");
    Object[] numbers = new Object[words.length];
    for (int i = 0; i < words.length; i++) numbers[i] = Integer.decode(words[i]);
    return numbers;
  }

  private static int answer(IdealProver x, String name, Object[] numbers) throws ReflectiveOperationException {
    Class<?>[] types = new Class<?>[numbers.length];
    java.util.Arrays.fill(types, int.class);
    Method method = IdealProver.class.getMethod(name, types);
    return (Integer) method.invoke(x, numbers);
  }

  public static void main(String[] args) throws Exception {
    says("README.md");
    IdealProver x = new IdealProver(2);
    int calls = 0;
    for (String line : Files.readAllLines(Path.of("README.md"))) {
      Matcher call = CALL.matcher(line);
      if (call.matches()) {
        calls++;
        due(line, answer(x, call.group(1), numbers(call.group(2))), Integer.parseInt(call.group(3)));
      } else if (line.startsWith("x.")) {
        due(line, "no answer beside it", "an answer");
      }
    }
    due("whether the example has its calls", calls >= FEWEST_CALLS ? 1 : 0, 1);
    end();
  }
}
