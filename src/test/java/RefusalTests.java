import java.util.Arrays;

/** Each argument of each call swept over its bounds: refused just where the document refuses it, and then nothing changes. */
public final class RefusalTests {
  private static final int BAD = WhitePaw.BAD, STATE = WhitePaw.STATE, FULL = WhitePaw.FULL, NONE = WhitePaw.NONE, NO = WhitePaw.NO;
  private static final int MIN = Integer.MIN_VALUE, MAX = Integer.MAX_VALUE;

  /** Beside what lies around each bound: what comes round by 8, 32, 64, 256 (shifts, bytes) or by the int itself. */
  private static final int[] ODD = {MIN, MIN + 1, MIN + 8, -1000000, -65536, -257, -256, -255, -129, -128, -65, -64, -63, -33, -32, -31,
      -24, -16, -12, -11, -10, -9, -8, -7, -6, -5, -4, -3, -2, -1, 0, 1, 2, 3, 4, 5, 6, 7, 8, 9, 10, 11, 12, 13, 15, 16, 17, 31, 32, 33,
      63, 64, 65, 98, 99, 100, 101, 127, 128, 129, 254, 255, 256, 257, 299, 300, 301, 511, 512, 513, 65535, 65536, 65537, 1 << 24,
      1 << 30, MAX - 8, MAX - 1, MAX};

  private static final Checks checks = new Checks();

  private interface Call {
    long on(WhitePaw x, int[] a);
  }

  private interface Plain {
    long on(WhitePaw x);
  }

  /** How a test's object comes to be, the same each time. */
  private enum Start {
    NEW(0, 0, 0), SMALL(2, 1, 1), MOST(5, 6, 4);

    final int knockers;
    final int errands;
    final int rules;

    Start(int knockers, int errands, int rules) {
      this.knockers = knockers;
      this.errands = errands;
      this.rules = rules;
    }

    WhitePaw make() {
      if (this == NEW) return new WhitePaw();
      WhitePaw x = Checks.house(this == SMALL ? "loud 0;knocker 1 0 1;knocker 0 2;errand 0 9 9;rule 1 0 1;"
          : "loud 0 2;knocker 1 0 1 2;knocker 0 3;knocker 1 0 7;knocker 0;knocker 0 7;"
              + "errand 0 9 9;errand 1 8 9;errand 2 7 0;errand 4 6 9;errand 5 5 9;errand 6 4 9;"
              + "rule 2 0 1 2;rule 1 0 1;rule 1 2 0;rule 1 0;");
      x.keep(1);
      x.hoarse(0, 0);
      x.knocks(0, 1);
      x.change(0, 3, 1);
      x.shown(5, 0);
      x.rate(0, 0);
      Checks.type(x, "knocker 1 4; loud");
      return x;
    }
  }

  public static void main(String[] args) {
    for (Start start : Start.values()) {
      arguments(start);
      ruleNumbers(start);
      listeners(start);
    }
    states();
    fulls();
    theFirstOfThese();
    faults();
    checks.end("RefusalTests");
  }

  private static String evening(WhitePaw x) {
    StringBuilder seen = new StringBuilder();
    for (int k = 0; k < 5; k++) {
      for (int what = 0; what < 4; what++) seen.append(x.knocker(k, what)).append(' ');
    }
    for (int e = 0; e < 6; e++) {
      for (int what = 0; what < 3; what++) seen.append(x.errand(e, what)).append(' ');
    }
    for (int i = 0; i < 4; i++) seen.append(x.rule(i, 0)).append(' ').append(x.rule(i, 1)).append(' ');
    for (int what = 0; what < 5; what++) seen.append(x.now(what)).append(' ').append(x.count(what)).append(' ');
    return seen.append(x.who()).append(' ').append(x.tell(0)).append(' ').append(x.trace()).append('\n').toString();
  }

  /** All that can be seen of an object, what can be UNDONE, its IMAGES and THE TEXT too; the object is used up by it. */
  private static String all(WhitePaw x) {
    StringBuilder seen = new StringBuilder(evening(x));
    int known = x.now(3);
    for (int i = 0; i <= known; i++) seen.append(x.undo()).append(' ').append(evening(x));
    for (int image = 0; image < 2; image++) seen.append(x.back(image)).append(' ').append(evening(x));
    return seen.append(x.house()).append(' ').append(x.clear()).toString();
  }

  private static void refused(String call, WhitePaw x, WhitePaw twin, Plain plain, long due) {
    checks.due(call, plain.on(x), due);
    checks.due(call + " changes nothing", all(x).equals(all(twin)));
  }

  /** The bounds: the least, the most, a usual one for each argument. */
  private static void sweep(Start start, String name, long bad, Call call, int... bounds) {
    for (int i = 0; i < bounds.length; i += 3) {
      for (int odd : ODD) {
        int[] a = new int[bounds.length / 3];
        for (int j = 0; j < a.length; j++) a[j] = bounds[3 * j + 2];
        a[i / 3] = odd;
        String told = start + " " + name + " " + Arrays.toString(a);
        boolean out = false;
        for (int j = 0; j < a.length; j++) out |= a[j] < bounds[3 * j] || a[j] > bounds[3 * j + 1];
        if (out) refused(told, start.make(), start.make(), x -> call.on(x, a), bad);
        else checks.due(told + " is not BAD", call.on(start.make(), a) != bad);
      }
    }
  }

  private static void arguments(Start start) {
    int k = start.knockers - 1;
    int e = start.errands - 1;
    int i = start.rules - 1;
    sweep(start, "2 type", BAD, (x, a) -> x.type(59, a[0]), 1, 8, 1);
    sweep(start, "5 knocker", BAD, (x, a) -> x.knocker(a[0], a[1]), 0, k, 0, 0, 3, 2);
    sweep(start, "6 errand", BAD, (x, a) -> x.errand(a[0], a[1]), 0, e, 0, 0, 2, 1);
    sweep(start, "7 rule", BAD, (x, a) -> x.rule(a[0], a[1]), 0, i, 0, 0, 1, 1);
    sweep(start, "8 runs", BAD, (x, a) -> x.runs(a[0], a[1]), 0, k, 1, 0, e, 0);
    sweep(start, "9 knocks, nobody listens", BAD, (x, a) -> x.knocks(a[0], NONE), 0, k, 0);
    sweep(start, "10 hoarse", BAD, (x, a) -> x.hoarse(a[0], a[1]), 0, k, 0, 0, 7, 1);
    sweep(start, "11 change", BAD, (x, a) -> x.change(a[0], a[1], 1), 0, i, 0, 1, 255, 6);
    sweep(start, "13 now", BAD, (x, a) -> x.now(a[0]), 0, 4, 0);
    sweep(start, "14 soonest", BAD, (x, a) -> x.soonest(a[0], a[1]), 0, k, 1, 0, 1, 0);
    sweep(start, "15 bar", BAD, (x, a) -> x.bar(a[0], a[1]), 0, k, 1, 0, 99, 9);
    sweep(start, "16 ask", BAD, (x, a) -> x.ask(a[0]), 0, 1, 0);
    sweep(start, "17 safe", BAD, (x, a) -> x.safe(a[0], a[1]), 0, 99, 9, 0, 1, 0);
    sweep(start, "18 odds", BAD, (x, a) -> x.odds(a[0], a[1], a[2]), 0, k, 0, 0, 10, 5, 0, 1, 0);
    sweep(start, "19 shown", BAD, (x, a) -> x.shown(a[0], a[1]), 0, 7, 1, 0, 1, 1);
    sweep(start, "22 tell", BAD, (x, a) -> x.tell(a[0]), 0, 1, 0);
    sweep(start, "23 rate", NO, (x, a) -> x.rate(a[0], a[1]), 0, 5, 3, 0, k, 0);
    sweep(start, "24 keep", BAD, (x, a) -> x.keep(a[0]), 0, 1, 1);
    sweep(start, "25 back", BAD, (x, a) -> x.back(a[0]), 0, 1, 1);
    sweep(start, "26 count", BAD, (x, a) -> x.count(a[0]), 0, 4, 0);
  }

  /** How many of a RULE's: 1 .. as many as it has. */
  private static void ruleNumbers(Start start) {
    if (start.rules == 0) return;
    for (int set : new int[] {1, 128, 3, 129, 7, 170, 85, 254, 127, 255}) {
      sweep(start, "11 change, set " + set, BAD, (x, a) -> x.change(0, set, a[0]), 1, Integer.bitCount(set), 1);
    }
  }

  /** One who is there and isn't the one who knocks, or NONE. */
  private static void listeners(Start start) {
    for (int k = 0; k < start.knockers; k++) {
      for (int listens : ODD) {
        boolean good = listens == NONE || listens >= 0 && listens < start.knockers && listens != k;
        int knocks = k;
        String told = start + " 9 knocks " + k + " " + listens;
        if (!good) refused(told, start.make(), start.make(), x -> x.knocks(knocks, listens), BAD);
        else checks.due(told + " is not BAD", start.make().knocks(k, listens) >= 0);
      }
    }
  }

  private static void states() {
    state("8 he has that SIGN", Start.MOST, x -> x.runs(0, 1));
    state("8 he lacks what it needs", Start.MOST, x -> x.runs(3, 2));
    state("10 he has it not", Start.MOST, x -> x.hoarse(0, 7));
    state("10 he had it, and was HOARSE", Start.MOST, x -> x.hoarse(0, 0));
    state("25 none was kept", Start.MOST, x -> x.back(0));
    state("12 none", Start.NEW, WhitePaw::undo);
    state("25 none was kept, a new object", Start.NEW, x -> x.back(1));
    refused("8 it were more than 99 HOURS", tired(), tired(), x -> x.runs(0, 0), STATE);
  }

  private static void state(String call, Start start, Plain plain) {
    refused(call, start.make(), start.make(), plain, STATE);
  }

  /** 99 HOURS went by for KNOCKER 0. */
  private static WhitePaw tired() {
    WhitePaw x = Checks.house("knocker 1;errand 0 9 9;rule 1 0;");
    for (int i = 0; i < 11; i++) {
      x.runs(0, 0);
      x.hoarse(0, 0);
    }
    x.keep(0);
    x.back(0);
    return x;
  }

  private static void fulls() {
    refused("2 FULL", typed(300), typed(300), x -> x.type(59, 1), FULL);
    for (int n = 1; n <= 8; n++) {
      int many = n;
      refused("2 FULL by one byte", typed(301 - n), typed(301 - n), x -> x.type(-1L, many), FULL);
    }
    refused("19 FULL", shown(6), shown(6), x -> x.shown(0, 1), FULL);
  }

  private static WhitePaw typed(int bytes) {
    WhitePaw x = Start.SMALL.make();
    x.clear();
    Checks.type(x, " ".repeat(bytes));
    return x;
  }

  private static WhitePaw shown(int many) {
    WhitePaw x = Start.SMALL.make();
    x.forget();
    for (int i = 0; i < many; i++) x.shown(0, 0);
    return x;
  }

  /** Refused, the first of these: BAD, STATE, FULL. */
  private static void theFirstOfThese() {
    refused("2 BAD ahead of FULL", typed(300), typed(300), x -> x.type(59, 9), BAD);
    refused("2 BAD ahead of FULL, n of 0", typed(300), typed(300), x -> x.type(59, 0), BAD);
    refused("19 BAD ahead of FULL, the SIGN", shown(6), shown(6), x -> x.shown(8, 1), BAD);
    refused("19 BAD ahead of FULL, has", shown(6), shown(6), x -> x.shown(1, 2), BAD);
    refused("8 BAD ahead of STATE, the ERRAND", tired(), tired(), x -> x.runs(0, 1), BAD);
    refused("8 BAD ahead of STATE, the KNOCKER", tired(), tired(), x -> x.runs(1, 0), BAD);
    refused("10 BAD ahead of STATE", tired(), tired(), x -> x.hoarse(0, 8), BAD);
    refused("25 BAD ahead of STATE", new WhitePaw(), new WhitePaw(), x -> x.back(2), BAD);
  }

  /** A FAULT changes nothing, and THE TEXT stays. */
  private static void faults() {
    for (Start start : Start.values()) {
      for (String text : new String[] {"loud", ";", "knocker 1 1;knocker 0;rule 1 3;errand 0 0 9;", "loud 1 2 3;#"}) {
        WhitePaw x = start.make();
        WhitePaw twin = start.make();
        x.clear();
        twin.clear();
        Checks.type(x, text);
        Checks.type(twin, text);
        long due = twin.house();
        checks.due("4 a FAULT of " + text, due <= -10);
        WhitePaw third = start.make();
        third.clear();
        Checks.type(third, text);
        refused("4 house() with a FAULT", x, third, WhitePaw::house, due);
      }
    }
  }
}
