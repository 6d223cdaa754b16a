import java.util.Random;

/** Long runs of calls by chance (the same ones each time), each answer compared with the Model's. */
public final class ModelTests {
  private static final int RUNS = 1500;
  private static final int CALLS = 512;
  private static final int FAULTY_TEXTS = 20000;

  private static final Checks checks = new Checks();
  private final Random random;
  private final String name;
  private final WhitePaw x = new WhitePaw();
  private final Model model = new Model();

  private ModelTests(int seed) {
    random = new Random(seed);
    name = "run " + seed + ": ";
  }

  public static void main(String[] args) {
    for (int seed = 1; seed <= RUNS; seed++) new ModelTests(seed).run();
    for (int seed = 1; seed <= FAULTY_TEXTS; seed++) new ModelTests(-seed).oneText();
    checks.end("ModelTests");
  }

  private void run() {
    int calls = 0;
    while (calls < CALLS) {
      if (calls == 0 || random.nextInt(120) == 0) calls += newHouse(random.nextInt(8) == 0);
      else calls += call(random.nextInt(30));
    }
  }

  private void oneText() {
    String text = houseText();
    int changes = random.nextInt(4);
    for (int i = 0; i < changes; i++) text = spoiled(text);
    typed(text);
    due("house() of " + text, x.house(), model.house());
    for (int what = 0; what < 5; what++) due("count of " + text, x.count(what), model.count(what));
  }

  private void due(String call, long got, long want) {
    checks.due(name + call, got, want);
  }

  /** How many calls it took. */
  private int newHouse(boolean faulty) {
    String text = faulty ? spoiled(houseText()) : houseText();
    due("clear()", x.clear(), model.clear());
    int calls = typed(text);
    due("house() of " + text, x.house(), model.house());
    return calls + 2;
  }

  private int typed(String text) {
    int calls = 0;
    for (int from = 0; from < text.length(); from += 8) {
      int to = Math.min(from + 8, text.length());
      long v = random.nextLong();
      for (int i = from; i < to; i++) v = v << 8 | text.charAt(i);
      due("type", x.type(v, to - from), model.type(v, to - from));
      calls++;
    }
    return calls;
  }

  // ---- texts

  private String blanks(int least) {
    return " ".repeat(random.nextInt(12) == 0 ? 2 : least);
  }

  private String signs(int least, int oneOf) {
    StringBuilder text = new StringBuilder();
    int set = 0;
    for (int sign = 0; sign < 8; sign++) {
      if (random.nextInt(oneOf) == 0) set |= 1 << sign;
    }
    while (Integer.bitCount(set) < least) set |= 1 << random.nextInt(8);
    for (int i = random.nextInt(8); set != 0; i = (i + 3) % 8) {
      if ((set >> i & 1) == 1) text.append(blanks(1)).append(i);
      set &= ~(1 << i);
    }
    return text.toString();
  }

  private String houseText() {
    int knockers = random.nextInt(6);
    int errands = random.nextInt(7);
    int rules = random.nextInt(8) == 0 ? 0 : random.nextInt(5);
    int sparse = 2 + random.nextInt(4);
    StringBuilder text = new StringBuilder();
    if (random.nextBoolean()) text.append("loud").append(signs(0, 2)).append(blanks(0)).append(';');
    for (int i = 0; i < knockers; i++) {
      text.append("knocker").append(blanks(0)).append(random.nextInt(2)).append(signs(0, sparse)).append(';').append(blanks(0));
    }
    for (int i = 0; i < errands; i++) {
      int need = random.nextBoolean() ? 9 : random.nextInt(8);
      text.append("errand ").append(random.nextInt(8)).append(blanks(1)).append(1 + random.nextInt(random.nextBoolean() ? 3 : 9));
      text.append(blanks(1)).append(need).append(blanks(0)).append(';');
    }
    for (int i = 0; i < rules; i++) {
      int many = 1 + random.nextInt(3);
      text.append(blanks(0)).append("rule").append(blanks(0)).append(many).append(signs(many, sparse)).append(';');
    }
    return text.substring(0, Math.min(300, text.length()));
  }

  /** A byte left out, put in, or another one in its place; or a piece of the text once more. */
  private String spoiled(String text) {
    String bytes = "0123456789 ;;loudknckerrandule \t" + (char) 0 + (char) 128 + (char) 255 + (char) ('0' + 128);
    char one = bytes.charAt(random.nextInt(bytes.length()));
    int place = random.nextInt(text.length() + 1);
    int behind = Math.min(text.length(), place + 1);
    int from = random.nextInt(text.length() + 1);
    String ahead = text.substring(0, place);
    String spoiled = switch (random.nextInt(5)) {
      case 0 -> ahead + text.substring(behind);
      case 1 -> ahead + one + text.substring(place);
      case 2 -> ahead + one + text.substring(behind);
      case 3 -> ahead;
      default -> text + text.substring(from);
    };
    return spoiled.substring(0, Math.min(300, spoiled.length()));
  }

  // ---- calls

  private int small(int most) {
    if (random.nextInt(40) == 0) return new int[] {-1, -9, most + 1, 100, Integer.MIN_VALUE, Integer.MAX_VALUE}[random.nextInt(6)];
    return random.nextInt(most + 1);
  }

  private int call(int which) {
    int k = small(4);
    int a = small(5);
    int b = small(1);
    int h = small(random.nextBoolean() ? 12 : 99);
    int sign = small(7);
    int set = small(255);
    int many = small(3);
    int listens = random.nextInt(4) == 0 ? -9 : small(4);
    switch (which) {
      case 0 -> due("knocker " + k + " " + a, x.knocker(k, a), model.knocker(k, a));
      case 1 -> due("errand " + k + " " + a, x.errand(k, a), model.errand(k, a));
      case 2 -> due("rule " + k + " " + b, x.rule(k, b), model.rule(k, b));
      case 3, 4, 5 -> due("runs " + k + " " + a, x.runs(k, a), model.runs(k, a));
      case 6, 7 -> due("knocks " + k + " " + listens, x.knocks(k, listens), model.knocks(k, listens));
      case 8, 9, 10 -> due("hoarse " + k + " " + sign, x.hoarse(k, sign), model.hoarse(k, sign));
      case 11 -> due("change " + a + " " + set + " " + many, x.change(a, set, many), model.change(a, set, many));
      case 12 -> due("undo", x.undo(), model.undo());
      case 13 -> due("now " + a, x.now(a), model.now(a));
      case 14, 15 -> due("soonest " + k + " " + b, x.soonest(k, b), model.soonest(k, b));
      case 16, 17 -> due("bar " + k + " " + h, x.bar(k, h), model.bar(k, h));
      case 18 -> due("ask " + b, x.ask(b), model.ask(b));
      case 19 -> due("safe " + h + " " + b, x.safe(h, b), model.safe(h, b));
      case 20 -> due("odds " + k + " " + h + " " + b, x.odds(k, h, b), model.odds(k, h, b));
      case 21, 27, 28 -> due("shown " + sign + " " + b, x.shown(sign, b), model.shown(sign, b));
      case 22 -> due("forget", x.forget(), model.forget());
      case 23 -> due("who", x.who(), model.who());
      case 24 -> due("tell " + b, x.tell(b), model.tell(b));
      case 25 -> due("rate " + a + " " + k, x.rate(a, k), model.rate(a, k));
      case 26 -> images(b);
      default -> due("count " + a, x.count(a) + 1000 * x.trace(), model.count(a) + 1000 * model.trace());
    }
    return 1;
  }

  private void images(int image) {
    if (random.nextInt(3) == 0) due("back " + image, x.back(image), model.back(image));
    else due("keep " + image, x.keep(image), model.keep(image));
  }
}
