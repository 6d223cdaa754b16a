import java.io.IOException;
import java.lang.management.ManagementFactory;
import java.lang.reflect.Field;
import java.lang.reflect.Member;
import java.lang.reflect.Method;
import java.lang.reflect.Modifier;
import java.nio.charset.StandardCharsets;
import java.nio.file.Files;
import java.nio.file.Path;
import java.util.Arrays;
import java.util.List;
import java.util.Set;
import java.util.TreeSet;
import java.util.regex.Matcher;
import java.util.regex.Pattern;
import java.util.stream.Stream;

/** Rules of ../shared/LANGUAGE.md that a look at the source, the classes or the room can tell. Arguments: the source, the classes' folder. */
public final class LanguageTests {
  private static final Set<String> METHODS = new TreeSet<>(List.of(
      "int type(long,int)", "int clear()", "int house()", "int knocker(int,int)", "int errand(int,int)", "int rule(int,int)",
      "int runs(int,int)", "int knocks(int,int)", "int hoarse(int,int)", "int change(int,int,int)", "int undo()", "int now(int)",
      "int soonest(int,int)", "int bar(int,int)", "int ask(int)", "int safe(int,int)", "long odds(int,int,int)",
      "int shown(int,int)", "int forget()", "int who()", "int tell(int)",
      "int rate(int,int)", "int keep(int)", "int back(int)", "int count(int)", "long trace()"));
  private static final Set<String> CONSTANTS = new TreeSet<>(List.of("BAD", "STATE", "FULL", "NONE", "NO"));
  private static final Set<String> LIBRARY = Set.of("java/lang/Object", "java/lang/String", "java/lang/Integer", "java/lang/Math", "java/lang/System");
  private static final int LONGEST_METHOD = 60;

  private static final Checks checks = new Checks();

  public static void main(String[] args) throws IOException {
    face();
    nested();
    source(Files.readString(Path.of(args[0]), StandardCharsets.UTF_8));
    library(Path.of(args[1]));
    room();
    checks.end("LanguageTests");
  }

  private static void face() {
    checks.due("public and final", WhitePaw.class.getModifiers() == (Modifier.PUBLIC | Modifier.FINAL));
    Set<String> methods = new TreeSet<>();
    for (Method method : WhitePaw.class.getDeclaredMethods()) {
      if (Modifier.isPrivate(method.getModifiers())) continue;
      checks.due("public, not static: " + method, method.getModifiers() == Modifier.PUBLIC);
      String parameters = String.join(",", Arrays.stream(method.getParameterTypes()).map(Class::getName).toList());
      methods.add(method.getReturnType().getName() + " " + method.getName() + "(" + parameters + ")");
    }
    checks.due("the methods are those of the document: " + methods, methods.equals(METHODS));
    Set<String> constants = new TreeSet<>();
    for (Field field : WhitePaw.class.getDeclaredFields()) {
      boolean open = !Modifier.isPrivate(field.getModifiers());
      if (open) constants.add(field.getName());
    }
    checks.due("the constants are those of the document: " + constants, constants.equals(CONSTANTS));
    checks.due("one constructor", WhitePaw.class.getDeclaredConstructors().length, 1);
  }

  private static void nested() {
    Class<?>[] classes = WhitePaw.class.getDeclaredClasses();
    checks.due("at most twelve classes", classes.length < 12);
    for (Class<?> one : classes) checks.due("static: " + one, Modifier.isStatic(one.getModifiers()));
    Stream.concat(Stream.of(WhitePaw.class), Arrays.stream(classes)).forEach(LanguageTests::members);
  }

  private static void members(Class<?> one) {
    long fields = Arrays.stream(one.getDeclaredFields()).filter(field -> !isStatic(field)).count();
    checks.due("at most twenty fields: " + one, fields <= 20);
    for (Field field : one.getDeclaredFields()) {
      checks.due("a static field is final: " + field, !isStatic(field) || Modifier.isFinal(field.getModifiers()));
    }
    for (Method method : one.getDeclaredMethods()) {
      boolean ofFace = one == WhitePaw.class && Modifier.isPublic(method.getModifiers());
      boolean borrowed = METHODS.stream().anyMatch(known -> known.contains(" " + method.getName() + "("));
      checks.due("a public one's name: " + method, ofFace || !borrowed);
      checks.due("at most seven parameters: " + method, method.getParameterCount() <= 7);
    }
  }

  private static boolean isStatic(Member member) {
    return Modifier.isStatic(member.getModifiers());
  }

  private static void source(String source) {
    String code = source.replaceAll("(?s)/\\*.*?\\*/", "").replaceAll("//[^\n]*", "");
    for (String word : List.of("throw", "throws", "try", "catch", "finally", "synchronized", "assert", "import", "package", "yield",
        "var", "record", "volatile", "double", "float", "instanceof", "goto", "native", "transient")) {
      checks.due("no word " + word, !Pattern.compile("\\b" + word + "\\b").matcher(code).find());
    }
    for (String signs : List.of("->", "::", "@", "\\u", "static {", "\" +", "+ \"")) {
      checks.due("no " + signs, !code.contains(signs));
    }
    checks.due("signs 1 to 127 alone", source.chars().allMatch(sign -> sign >= 1 && sign <= 127));
    int length = 0;
    for (String line : code.split("\n")) {
      length = line.matches("  (  )?\\S.*\\) \\{") ? 0 : length + 1;
      checks.due("a method of at most " + LONGEST_METHOD + " lines, up to: " + line, length <= LONGEST_METHOD);
    }
  }

  /** The names that stand in the compiled classes tell what of the library is used. */
  private static void library(Path folder) throws IOException {
    int seen = 0;
    for (Path file : Files.list(folder).filter(path -> path.getFileName().toString().startsWith("WhitePaw")).toList()) {
      if (!file.getFileName().toString().matches("WhitePaw(\\$\\w+)?\\.class")) continue;
      seen++;
      String bytes = Files.readString(file, StandardCharsets.ISO_8859_1);
      Matcher names = Pattern.compile("java/[A-Za-z/]+").matcher(bytes);
      while (names.find()) checks.due(file + " uses " + names.group(), LIBRARY.contains(names.group()));
    }
    checks.due("classes were looked at", seen > 1);
  }

  /** No call makes an object, so a run's room is what its constructors make. */
  private static void room() {
    com.sun.management.ThreadMXBean threads = (com.sun.management.ThreadMXBean) ManagementFactory.getThreadMXBean();
    WhitePaw x = new WhitePaw();
    for (int i = 0; i < 200; i++) calls(x);
    long ahead = threads.getCurrentThreadAllocatedBytes();
    for (int i = 0; i < 200; i++) calls(x);
    long made = threads.getCurrentThreadAllocatedBytes() - ahead;
    checks.due("200 rounds of calls made " + made + " bytes of objects", made < 4096);
  }

  private static void calls(WhitePaw x) {
    // knocker 0 1;errand 2 3 9;rule 1 2;
    x.type(0x6B6E6F636B657220L, 8);
    x.type(0x3020313B65727261L, 8);
    x.type(0x6E64203220332039L, 8);
    x.type(0x3B72756C65203120L, 8);
    x.type(0x323BL, 2);
    x.house();
    x.runs(0, 0);
    x.knocks(0, -9);
    x.hoarse(0, 1);
    x.change(0, 6, 1);
    x.undo();
    x.keep(0);
    x.back(0);
    x.soonest(0, 0);
    x.bar(0, 9);
    x.ask(0);
    x.safe(9, 0);
    x.odds(0, 3, 0);
    x.shown(2, 1);
    x.tell(0);
    for (int kind = 0; kind < 6; kind++) x.rate(kind, 0);
    for (int what = 0; what < 5; what++) x.now(what);
  }
}
