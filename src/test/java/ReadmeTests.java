import java.io.IOException;
import java.lang.reflect.InvocationTargetException;
import java.lang.reflect.Method;
import java.lang.reflect.Modifier;
import java.nio.charset.StandardCharsets;
import java.nio.file.Files;
import java.nio.file.Path;
import java.util.Arrays;
import java.util.regex.Matcher;
import java.util.regex.Pattern;

/** README.md: its example answers as it says, and it names each call. Argument: the file. */
public final class ReadmeTests {
  private static final Pattern HOUSE = Pattern.compile("String house = \"([^\"]*)\";");
  private static final Pattern CALL = Pattern.compile("(?m)^x\\.(\\w+)\\(([^)]*)\\); *// (-?\\d+): ");

  private static final Checks checks = new Checks();

  public static void main(String[] args) throws IOException, IllegalAccessException, InvocationTargetException {
    String readme = Files.readString(Path.of(args[0]), StandardCharsets.UTF_8);
    example(readme);
    names(readme);
    checks.end("ReadmeTests");
  }

  private static void example(String readme) throws IllegalAccessException, InvocationTargetException {
    Matcher house = HOUSE.matcher(readme);
    checks.due("the example has a house", house.find());
    WhitePaw x = new WhitePaw();
    Checks.type(x, house.group(1));
    Matcher calls = CALL.matcher(readme);
    int seen = 0;
    while (calls.find()) {
      seen++;
      checks.due(calls.group(), answer(x, calls.group(1), calls.group(2)), Long.parseLong(calls.group(3)));
    }
    checks.due("every line of the example was looked at", seen, readme.lines().filter(line -> line.startsWith("x.")).count());
    checks.due("the example has calls", seen > 9);
  }

  private static long answer(WhitePaw x, String name, String arguments) throws IllegalAccessException, InvocationTargetException {
    Integer[] numbers = arguments.isEmpty() ? new Integer[0]
        : Arrays.stream(arguments.split(", ")).map(Integer::valueOf).toArray(Integer[]::new);
    Method call = Arrays.stream(WhitePaw.class.getMethods()).filter(method -> method.getName().equals(name)).findFirst().orElseThrow();
    return ((Number) call.invoke(x, (Object[]) numbers)).longValue();
  }

  private static void names(String readme) {
    for (Method call : WhitePaw.class.getDeclaredMethods()) {
      boolean open = Modifier.isPublic(call.getModifiers());
      if (open) checks.due("it names " + call.getName(), readme.contains("`" + call.getName() + "`"));
    }
  }
}
