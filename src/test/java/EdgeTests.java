/** Sentences of the document that name a bound (too small, too large, empty, full, one too many, coming round), each with a test. */
public final class EdgeTests {
  private static final int STATE = WhitePaw.STATE, FULL = WhitePaw.FULL, NONE = WhitePaw.NONE;
  private static final int SO_AS_IT_IS = -5;
  private static final String ALL = " 0 1 2 3 4 5 6 7;";

  private static final Checks checks = new Checks();

  public static void main(String[] args) {
    aNewObject();
    enoughOfEachRule();
    noRules();
    neededAhead();
    hours();
    heard();
    loudAndOfAnyRule();
    hoarse();
    changed();
    tenAreKnown();
    theRingComesRound();
    refusedAreNotKnown();
    undoneBehind();
    whoIsLetIn();
    setsThatCanBeRun();
    fewestHours();
    leastBits();
    hoursDoNotMatter();
    bar();
    barLastErrand();
    ask();
    askFewest();
    safe();
    safeLimits();
    odds();
    oddsInLeastTerms();
    shown();
    who();
    tell();
    rates();
    traces();
    theLongestTrace();
    images();
    imagesAndTheRest();
    calls();
    checks.end("EdgeTests");
  }

  private static void due(String call, long got, long want) {
    checks.due(call, got, want);
  }

  /** Promise 1: as told; nobody, no ERRANDS, no RULES; what is none, empty, not kept. */
  private static void aNewObject() {
    WhitePaw x = new WhitePaw();
    due("1 nobody knocks", x.knocks(0, NONE), -1);
    due("1 no RULE is CHANGED", x.change(0, 1, 1), -1);
    due("1 rate", x.rate(0, 0), -1000000);
    due("1 nothing is UNDONE", x.undo(), STATE);
    due("1 no IMAGE 0", x.back(0), STATE);
    due("1 no IMAGE 1", x.back(1), STATE);
    due("1 tell", x.tell(1), NONE);
    due("1 ask: the set", x.ask(0), 1);
    due("1 safe: the number", x.safe(0, 1), 1);
    due("1 clear", x.clear(), 0);
    due("1 forget", x.forget(), 0);
    due("1 keep", x.keep(0), 0);
    due("1 back", x.back(0), 0);
    due("1 one thing SHOWN", x.shown(0, 0), 1);
    due("1 an empty THE TEXT", x.house(), 0);
    due("1 IMAGES are gone", x.back(0), STATE);
    due("1 nothing SHOWN", x.count(3), 0);
    WhitePaw y = new WhitePaw();
    Checks.type(y, "knocker 1;");
    due("1 another one's THE TEXT", x.count(4), 0);
  }

  // ---- the house, an evening

  /** Who has enough of each RULE's is LET IN: just as many, one less. */
  private static void enoughOfEachRule() {
    for (int has = 0; has <= 8; has++) {
      String row = ALL.substring(0, 2 * has) + ";";
      WhitePaw x = Checks.house("knocker 1" + row + "rule 1 0;rule 1" + ALL);
      x.change(0, 255, 1);
      for (int many = 1; many <= 8; many++) {
        due("11 " + has + " SIGNS, RULE of " + many, x.change(1, 255, many), has >= many ? 1 : 0);
        due("5 whether LET IN", x.knocker(0, 3), has >= many ? 1 : 0);
        due("9 knocks", x.knocks(0, NONE), has >= many ? 1 : 0);
      }
    }
    WhitePaw x = Checks.house("knocker 1 0 1 2;knocker 0 0 1;rule 1 0;rule 1 1;rule 1 2;rule 3 0 1 2;");
    due("13 each of four RULES", x.now(0), 1);
    for (int i = 0; i < 4; i++) {
      x.change(i, 128, 1);
      due("13 not RULE " + i, x.now(0), 0);
      x.undo();
      due("13 all of them again", x.now(0), 1);
    }
    due("7 SIGNS that he has beside the RULE's do not matter", Checks.house("knocker 1 0 1 2 3;rule 1 7;").now(0), 0);
  }

  /** (no RULES: everybody), who has no SIGNS too. */
  private static void noRules() {
    WhitePaw x = Checks.house("knocker 1;knocker 0;knocker 0 7;");
    due("13 everybody is LET IN", x.now(0), 7);
    due("5 without SIGNS", x.knocker(0, 3), 1);
    due("9 knocks", x.knocks(1, 0), 1);
    due("14 SOONEST", x.soonest(0, 0), 0);
    due("14 no ERRANDS", x.soonest(0, 1), 0);
    due("15 BAR", x.bar(0, 0), NONE);
    due("18 ODDS", x.odds(2, 10, 0), 1);
    due("23 no RULES to have enough for", x.rate(1, 2), 1);
    due("24 keep", x.keep(0), 3);
    due("10 all SIGNS gone", x.hoarse(2, 7), 0);
    due("13 still everybody", x.now(0), 7);
  }

  /** A SIGN that one must have ahead (9: none), 0 and 7 too. */
  private static void neededAhead() {
    WhitePaw x = Checks.house("knocker 0 0;knocker 0 7;knocker 0;errand 3 1 0;errand 4 1 7;errand 5 1 9;");
    due("8 needs 0, has it", x.runs(0, 0), 1);
    due("8 needs 0, lacks it", x.runs(1, 0), STATE);
    due("8 needs 7, has it", x.runs(1, 1), 1);
    due("8 needs 7, lacks it", x.runs(0, 1), STATE);
    due("8 needs nothing, has nothing", x.runs(2, 2), 1);
    due("8 has other SIGNS, not that one", x.runs(2, 0), STATE);
    due("8 HOARSE since", x.hoarse(0, 0), 1);
    due("8 has what it gets", x.runs(0, 0), STATE);
    due("8 lost that, lacks what it needs", x.hoarse(0, 3), 0);
    due("8 lacks it", x.runs(0, 0), STATE);
  }

  /** HOURS that went by (0 at first, 99 at most): each sum up to 99 stands, none above. */
  private static void hours() {
    for (int last = 1; last <= 9; last++) {
      for (int went = 90; went <= 99; went++) {
        WhitePaw x = Checks.house("knocker 1;knocker 0;errand 0 9 9;errand 1 1 9;errand 2 " + last + " 9;");
        due("5 0 at first", x.knocker(0, 2), 0);
        for (int i = 0; i < 10; i++) pass(x, 0);
        for (int i = 90; i < went; i++) pass(x, 1);
        int sum = went + last;
        due("8 " + went + " and " + last, x.runs(0, 2), sum <= 99 ? sum : STATE);
        due("5 HOURS", x.knocker(0, 2), sum <= 99 ? sum : went);
        due("5 SIGNS", x.knocker(0, 1), sum <= 99 ? 4 : 0);
        due("8 another one's HOURS", x.runs(1, 2), last);
      }
    }
  }

  private static void pass(WhitePaw x, int e) {
    x.runs(0, e);
    x.hoarse(0, e);
  }

  /** Who LISTENS gets those LOUD SIGNS of the one who KNOCKS that are of any RULE: none, one, all; what he has stays. */
  private static void heard() {
    WhitePaw x = Checks.house("loud" + ALL + "knocker 1" + ALL + "knocker 0;knocker 0 0 7;knocker 0" + ALL + "rule 1 0 1;rule 8" + ALL);
    due("9 all SIGNS are heard", x.knocks(0, 1), 1);
    due("9 by one who had none", x.knocker(1, 1), 255);
    due("9 by one who had some", x.knocks(0, 2), 1);
    due("9 what he had stays", x.knocker(2, 1), 255);
    due("9 by one who had all", x.knocks(0, 3), 1);
    due("9 all stay", x.knocker(3, 1), 255);
    due("9 the one who KNOCKS keeps his", x.knocker(0, 1), 255);
    due("9 no HOURS go by", x.knocker(1, 2) + x.knocker(0, 2), 0);
    x = Checks.house("loud 1 2;knocker 0 1;knocker 0 2;knocker 0;rule 3 0 1 2;");
    due("9 kept out", x.knocks(0, 1), 0);
    due("9 heard though kept out", x.knocker(1, 1), 6);
    due("9 who has none", x.knocks(2, 0), 0);
    due("9 gives none", x.knocker(0, 1), 2);
    due("9 nobody LISTENS", x.knocks(1, NONE), 0);
    due("9 nobody gets any", x.knocker(2, 1) + x.knocker(0, 1), 2);
  }

  private static void loudAndOfAnyRule() {
    for (int sign = 0; sign < 8; sign++) {
      for (int which = 0; which < 8; which++) {
        boolean has = (which & 1) == 0;
        boolean loud = (which & 2) == 0;
        boolean ofRule = (which & 4) == 0;
        int other = (sign + 1) % 8;
        WhitePaw x = Checks.house("loud" + (loud ? " " + sign : "") + ";knocker 1" + (has ? " " + sign : "") + ";knocker 0;"
            + "rule 1 " + other + ";rule 1 " + (ofRule ? sign : other) + ";rule 1 " + other + ";");
        x.knocks(0, 1);
        due("9 SIGN " + sign + ", " + which, x.knocker(1, 1), which == 0 ? 1 << sign : 0);
      }
      WhitePaw x = Checks.house("loud " + sign + ";knocker 1 " + sign + ";knocker 0;" + ("rule 1 " + sign + ";").repeat(2));
      x.knocks(0, 1);
      due("9 SIGN " + sign + " of two RULES", x.knocker(1, 1), 1 << sign);
      x.undo();
      x.change(0, 255 ^ 1 << sign, 1);
      x.change(1, 255 ^ 1 << sign, 1);
      x.knocks(0, 1);
      due("9 SIGN " + sign + " of no RULE any more", x.knocker(1, 1), 0);
    }
  }

  /** HOARSE: a KNOCKER has a SIGN no more, until none are left. */
  private static void hoarse() {
    WhitePaw x = Checks.house("knocker 1" + ALL + "knocker 0" + ALL);
    for (int sign = 0; sign < 8; sign++) {
      due("10 left behind SIGN " + sign, x.hoarse(0, sign), 7 - sign);
      due("10 not twice", x.hoarse(0, sign), STATE);
      due("5 SIGNS", x.knocker(0, 1), 255 & ~((2 << sign) - 1));
    }
    due("5 the other one's stay", x.knocker(1, 1), 255);
  }

  /** A RULE is CHANGED: BAD (set 1 .. 255), 1 .. as many as it has. */
  private static void changed() {
    WhitePaw x = Checks.house("knocker 1 0;knocker 1 7;knocker 0 0 7;rule 1 0;rule 1 0;rule 1 0;rule 1 0;");
    for (int i = 0; i < 4; i++) due("11 each RULE, the highest SIGN", x.change(i, 128, 1), i < 3 ? 1 : 2);
    for (int i = 0; i < 4; i++) due("11 each RULE, all SIGNS", x.change(i, 255, 1), i < 3 ? 2 : 3);
    due("11 all of two", x.change(0, 129, 2), 1);
    due("11 one too many", x.change(0, 129, 3), -1);
    due("7 the number stands", x.rule(0, 1), 2);
    due("11 all of eight", x.change(0, 255, 8), 0);
    due("11 as it is already", x.change(0, 255, 8), 0);
    due("13 is known all the same", x.now(3), 10);
  }

  // ---- UNDONE

  /** (10 are known, older ones are lost): ahead of, at, behind that many, for each of the four. */
  private static void tenAreKnown() {
    for (int kind = 0; kind < 4; kind++) {
      for (int many = 0; many <= 12; many++) {
        WhitePaw x = Checks.house("loud 0;knocker 1 0;knocker 0;errand 1 1 9;rule 1 0;");
        for (int turn = 0; turn < many; turn++) checks.due("not refused", one(x, kind, turn) >= 0);
        int known = Math.min(many, 10);
        due("13 known of " + many, x.now(3), known);
        for (int left = known - 1; left >= 0; left--) due("12 UNDONE", x.undo(), left);
        due("12 none more", x.undo(), STATE);
        due("13 none is known", x.now(3), 0);
      }
    }
  }

  /** One of the four: a change, a knock, an ERRAND or HOARSE by turns, a change or a knock by turns. */
  private static int one(WhitePaw x, int kind, int turn) {
    boolean even = turn % 2 == 0;
    return switch (kind) {
      case 0 -> x.change(0, 1 + turn, 1);
      case 1 -> x.knocks(0, even ? NONE : 1);
      case 2 -> even ? x.runs(0, 0) : x.hoarse(0, 1);
      default -> even ? x.change(0, 1, 1) : x.knocks(0, NONE);
    };
  }

  /** However often the ten places come round, each UNDONE brings back what stood ahead of it. */
  private static void theRingComesRound() {
    for (int first = 0; first <= 23; first++) {
      WhitePaw x = Checks.house("knocker 1;rule 1 0;");
      for (int i = 1; i <= first; i++) x.change(0, i, 1);
      int back = Math.min(first, 4);
      for (int i = 1; i <= back; i++) x.undo();
      int stands = Math.max(1, first - back);
      due("12 what stands, of " + first, x.rule(0, 0), stands);
      for (int i = 1; i <= 9; i++) x.change(0, 100 + i, 1);
      int known = Math.min(10, Math.min(first, 10) - back + 9);
      due("13 known then", x.now(3), known);
      for (int i = 8; i >= 1; i--) {
        due("12 UNDONE", x.undo(), known - 9 + i);
        due("12 what stood", x.rule(0, 0), 100 + i);
      }
      x.undo();
      due("12 what stood ahead of these", x.rule(0, 0), stands);
    }
  }

  /** That was not refused: refused ones are not UNDONE, nor do they push out older ones. */
  private static void refusedAreNotKnown() {
    WhitePaw x = Checks.house("knocker 1 0;knocker 0 1;errand 0 9 9;errand 2 9 3;rule 1 0;");
    for (int i = 1; i <= 10; i++) x.change(0, i, 1);
    for (int i = 0; i < 12; i++) {
      x.runs(0, 0);
      x.runs(0, 1);
      x.runs(0, 2);
      x.knocks(0, 0);
      x.knocks(2, NONE);
      x.hoarse(0, 7);
      x.hoarse(0, 8);
      x.change(0, 0, 1);
      x.change(1, 1, 1);
      x.change(0, 3, 3);
    }
    for (int i = 9; i >= 0; i--) {
      due("12 not the refused ones", x.undo(), i);
      due("12 what stood", x.rule(0, 0), Math.max(1, i));
    }
  }

  /** UNDONE is itself not UNDONE; nor are what is asked, SHOWN, kept. */
  private static void undoneBehind() {
    WhitePaw x = Checks.house("knocker 1 0;knocker 0 1;errand 2 9 9;rule 1 0;");
    x.runs(0, 0);
    x.shown(0, 1);
    x.forget();
    x.shown(1, 1);
    x.keep(0);
    x.soonest(0, 0);
    x.safe(9, 0);
    x.rate(4, 0);
    x.type(0, 1);
    due("12 the ERRAND", x.undo(), 0);
    due("12 its HOURS", x.knocker(0, 2), 0);
    due("12 its SIGN", x.knocker(0, 1), 1);
    due("12 nothing more", x.undo(), STATE);
    due("12 what was SHOWN stays", x.count(3), 1);
    due("12 THE TEXT stays", x.count(4), 1);
    due("12 THE TRACE goes on", x.trace(), 10101);
    due("12 IMAGES stay", x.back(0), 1);
    due("12 as kept", x.knocker(0, 2), 9);
  }

  /** Promise 13: each KNOCKER's bit, RIGHT or not, LET IN or not. */
  private static void whoIsLetIn() {
    for (int right = 0; right < 32; right++) {
      for (int in = 0; in < 32; in++) {
        StringBuilder text = new StringBuilder("rule 1 0;");
        for (int k = 0; k < 5; k++) text.append("knocker ").append(right >> k & 1).append((in >> k & 1) == 1 ? " 0;" : " 1;");
        WhitePaw x = Checks.house(text.toString());
        due("13 LET IN", x.now(0), in);
        due("13 not RIGHT", x.now(1), in & ~right);
        due("13 RIGHT, kept out", x.now(2), right & ~in);
        due("24 how many", x.keep(0), Integer.bitCount(in));
        due("25 how many", x.back(0), Integer.bitCount(in));
        due("16 ask: the set", x.ask(0), askedSet(right, in));
      }
    }
  }

  /** Each has SIGN 0 or SIGN 1: a RULE of the one, of the other, of both for all, of a third one for nobody. */
  private static int askedSet(int right, int withSign0) {
    if (right == withSign0) return 1;
    if (right == (31 & ~withSign0)) return 2;
    if (right == 31) return 3;
    return right == 0 ? 4 : NONE;
  }

  // ---- what can be got

  /** One behind another, each once, none of a SIGN that he has then, with what each needs ahead. */
  private static void setsThatCanBeRun() {
    WhitePaw x = Checks.house("knocker 0;errand 0 1 1;errand 1 1 2;errand 2 1 9;rule 1 0;");
    due("14 from the last ERRAND to the first", x.soonest(0, 1), 7);
    x = Checks.house("knocker 0;errand 0 5 9;errand 0 2 1;errand 1 2 9;rule 2 0 1;");
    due("14 not twice the same SIGN", x.soonest(0, 0), 4);
    due("14 by the one that needs another", x.soonest(0, 1), 6);
    x = Checks.house("knocker 0 1;errand 1 1 9;errand 0 2 9;rule 1 0;");
    due("14 none of a SIGN that he has", x.soonest(0, 1), 2);
    x = Checks.house("knocker 0 3;errand 0 1 3;rule 1 0;");
    due("14 needs what he has at first", x.soonest(0, 0), 1);
    x.hoarse(0, 3);
    due("14 from his SIGNS as they are", x.soonest(0, 0), NONE);
    x.runs(0, 0);
    due("14 lacks it", x.soonest(0, 1), NONE);
    x = Checks.house("knocker 0;errand 1 9 9;errand 1 9 9;rule 2 0 1;");
    due("14 each once, no SIGN twice", x.soonest(0, 0), NONE);
    x = Checks.house("knocker 0;errand 7 4 9;errand 0 5 7;rule 2 0 7;");
    due("14 the lowest and the highest SIGN", x.soonest(0, 0), 9);
    due("14 no ERRANDS, kept out", Checks.house("knocker 0;rule 1 0;").soonest(0, 0), NONE);
    due("14 no ERRANDS, LET IN", Checks.house("knocker 0 0;rule 1 0;").soonest(0, 1), 0);
  }

  private static void fewestHours() {
    WhitePaw x = Checks.house("knocker 0;errand 0 9 9;errand 1 8 9;errand 2 7 9;errand 3 6 9;errand 4 5 9;errand 5 4 9;rule 1 0;");
    for (int many = 1; many <= 6; many++) {
      x.change(0, 63, many);
      due("14 the last " + many, x.soonest(0, 1), 64 - (1 << 6 - many));
      due("14 their HOURS", x.soonest(0, 0), many * (many + 7) / 2);
    }
    x.change(0, 255, 7);
    due("14 one too many", x.soonest(0, 0), NONE);
    x = Checks.house("knocker 0;errand 0 9 9;errand 1 1 9;errand 2 9 9;rule 1 0 1;rule 1 1 2;rule 1 1;");
    due("14 one for all RULES", x.soonest(0, 1), 2);
    due("14 the one HOUR", x.soonest(0, 0), 1);
    x = Checks.house("knocker 0;" + "errand 0 9 9;errand 1 9 9;errand 2 9 9;errand 3 9 9;errand 4 9 9;errand 5 9 9;rule 6 0 1 2 3 4 5;");
    due("14 the most HOURS", x.soonest(0, 0), 54);
    due("14 all ERRANDS", x.soonest(0, 1), 63);
  }

  /** Of several the least bits. */
  private static void leastBits() {
    WhitePaw x = Checks.house("knocker 0;errand 0 2 9;errand 0 2 9;errand 0 2 9;rule 1 0;");
    due("14 of three alike the first", x.soonest(0, 1), 1);
    x = Checks.house("knocker 0;errand 5 1 9;errand 0 3 9;errand 1 1 9;errand 2 2 1;rule 1 0 2;");
    due("14 one of three HOURS or two of them", x.soonest(0, 1), 2);
    x = Checks.house("knocker 0;errand 1 1 9;errand 2 2 1;errand 0 3 9;rule 1 0 2;");
    due("14 two of them or one of three HOURS", x.soonest(0, 1), 3);
  }

  /** (99 HOURS do not matter; nor in BAR, SAFE.) */
  private static void hoursDoNotMatter() {
    WhitePaw x = Checks.house("knocker 0;knocker 1 0 1;errand 0 9 9;errand 1 9 0;rule 2 0 1;");
    for (int i = 0; i < 11; i++) pass(x, 0);
    due("5 99 HOURS went by", x.knocker(0, 2), 99);
    due("8 none can be run", x.runs(0, 0), STATE);
    due("14 SOONEST all the same", x.soonest(0, 0), 18);
    due("15 BAR all the same", x.bar(0, 18), 0);
    due("15 nor is it so as it is", x.bar(0, 17), SO_AS_IT_IS);
    due("17 SAFE, ahead of the second ERRAND", x.safe(17, 0), 2);
    due("17 SAFE all the same", x.safe(18, 0), NONE);
  }

  /** The first ERRAND without which SOONEST would be more than h (or none); h of 0 .. 99. */
  private static void bar() {
    WhitePaw x = Checks.house("knocker 0;errand 0 3 9;errand 0 5 9;rule 1 0;");
    due("15 h below", x.bar(0, 2), SO_AS_IT_IS);
    due("15 h of just so much", x.bar(0, 3), 0);
    due("15 without it one less than h", x.bar(0, 4), 0);
    due("15 without it just h: not more", x.bar(0, 5), NONE);
    due("15 h of 99", x.bar(0, 99), NONE);
    due("15 h of 0", x.bar(0, 0), SO_AS_IT_IS);
    x.runs(0, 0);
    due("15 LET IN already", x.bar(0, 0), NONE);
    due("15 by 99, too", x.bar(0, 99), NONE);
    x = Checks.house("knocker 0;rule 1 0;");
    due("15 none, no ERRANDS", x.bar(0, 99), SO_AS_IT_IS);
    x = Checks.house("knocker 0 0;rule 1 0;");
    due("15 LET IN, no ERRANDS", x.bar(0, 0), NONE);
  }

  private static void barLastErrand() {
    for (int e = 0; e < 6; e++) {
      StringBuilder text = new StringBuilder("knocker 0;rule 1 0;");
      for (int i = 0; i < 6; i++) text.append("errand ").append(i == e ? 0 : 1).append(" 9 9;");
      WhitePaw x = Checks.house(text.toString());
      due("15 ERRAND " + e + " alone", x.bar(0, 99), e);
      due("15 just so", x.bar(0, 9), e);
      due("15 less", x.bar(0, 8), SO_AS_IT_IS);
    }
    WhitePaw x = Checks.house("knocker 0;errand 3 1 9;errand 1 1 9;errand 0 1 1;errand 0 9 9;rule 1 0;");
    due("15 the first of two in a row", x.bar(0, 2), 1);
    due("15 without which nine", x.bar(0, 8), 1);
    due("15 nine will do", x.bar(0, 9), NONE);
  }

  // ---- rules

  /** A RULE alone by which all RIGHT ones are LET IN and no other: NONE; nobody; all; who has nothing. */
  private static void ask() {
    ask("knocker 1;", NONE, NONE);
    ask("knocker 0;", 1, 1);
    ask("knocker 1 0;knocker 0 0;", NONE, NONE);
    ask("knocker 1 0;knocker 0 0 1;", NONE, NONE);
    ask("knocker 1 0 1;knocker 0 0;", 2, 1);
    ask("knocker 1 7;", 128, 1);
    ask("knocker 1 7;knocker 0 0 1 2 3 4 5 6;", 128, 1);
    ask("knocker 0 0 1 2 3 4 5 6;", 128, 1);
    ask("knocker 0" + ALL, NONE, NONE);
    ask("knocker 1" + ALL + "knocker 0 1 2 3 4 5 6 7;", 1, 1);
    ask("knocker 1 0;knocker 1 1;", 3, 1);
    ask("knocker 1 0;knocker 1 1;knocker 0;", 3, 1);
    ask("knocker 1 0;knocker 1 1;knocker 0 2;", 3, 1);
    ask("knocker 1 0 1;knocker 0 0;knocker 0 1;", 3, 2);
    ask("knocker 1 0 1 2 3;knocker 0 0 1 2;knocker 0 0 1 3;knocker 0 0 2 3;knocker 0 1 2 3;", 15, 4);
    ask("knocker 1;knocker 0 0;", NONE, NONE);
    ask("knocker 1;knocker 1;", NONE, NONE);
  }

  private static void ask(String text, int set, int many) {
    WhitePaw x = Checks.house(text);
    due("16 the set for " + text, x.ask(0), set);
    due("16 the number for " + text, x.ask(1), many);
    due("17 the set for " + text, x.safe(0, 0), set);
    due("17 the number for " + text, x.safe(99, 1), many);
  }

  /** Of the fewest SIGNS, of these the least set; alone, in place of all. */
  private static void askFewest() {
    ask("knocker 1 0 1 7;knocker 0 0;knocker 0 1;", 128, 1);
    ask("knocker 1 6 7;knocker 0 0 1 2 3 4 5;", 64, 1);
    ask("knocker 1 2 3 4;knocker 0 2 3;knocker 0 4 3;", 20, 2);
    ask("knocker 1 0 1;knocker 1 1 2;knocker 1 0 2;knocker 0 0;knocker 0 1;", 7, 2);
    ask("rule 1 7;knocker 1 0;knocker 0;", 1, 1);
    WhitePaw x = Checks.house("knocker 1 0;knocker 0 1;rule 1 0;");
    due("16 a RULE that is there", x.ask(0), 1);
    x.hoarse(0, 0);
    due("16 with SIGNS as they are", x.ask(0), NONE);
    x.undo();
    x.keep(0);
    x.change(0, 2, 1);
    due("16 whatever the RULES are", x.ask(0), 1);
    due("7 the RULE stays", x.rule(0, 0), 2);
  }

  /** Whatever he can have by h (0 .. 99) HOURS: just h, one less, with each set and none. */
  private static void safe() {
    for (int hours = 1; hours <= 9; hours++) {
      WhitePaw x = Checks.house("knocker 1 0;knocker 0;errand 0 " + hours + " 9;");
      due("17 one HOUR less than " + hours, x.safe(hours - 1, 0), 1);
      due("17 just " + hours, x.safe(hours, 0), NONE);
      due("17 one more", x.safe(hours + 1, 0), NONE);
      due("16 ERRANDS do not matter", x.ask(0), 1);
    }
    WhitePaw x = Checks.house("knocker 1 0 1;knocker 0;errand 0 1 9;errand 1 1 9;");
    due("17 both at one HOUR, not together", x.safe(1, 0), 3);
    due("17 two of two", x.safe(1, 1), 2);
    due("17 together", x.safe(2, 0), NONE);
    due("17 fewer HOURS again", x.safe(0, 0), 1);
    due("17 fewer HOURS again, the number", x.safe(0, 1), 1);
    x = Checks.house("knocker 1 0 1;knocker 0;errand 0 1 1;errand 1 2 9;");
    due("17 what needs another", x.safe(2, 0), 1);
    due("17 behind that", x.safe(3, 0), NONE);
    x = Checks.house("knocker 1 0;knocker 0 0;errand 0 1 9;");
    due("17 with none of them, too", x.safe(0, 0), NONE);
    x = Checks.house("knocker 1 0 1;knocker 0 0;knocker 0;errand 1 1 0;");
    due("17 who can run none does not", x.safe(0, 0), 2);
    due("17 who can run it does", x.safe(1, 0), NONE);
    x.hoarse(1, 0);
    due("17 from SIGNS as they are", x.safe(1, 0), 1);
  }

  private static void safeLimits() {
    WhitePaw x = Checks.house("knocker 1" + ALL + "knocker 0;errand 0 9 9;errand 1 9 0;errand 2 9 1;errand 3 9 2;errand 4 9 3;errand 5 9 4;");
    for (int many = 1; many <= 6; many++) {
      due("17 by " + 9 * many + " less one", x.safe(9 * many - 1, 0), 1 << many - 1);
      due("17 by " + 9 * many, x.safe(9 * many, 0), 1 << many);
    }
    due("17 by 99", x.safe(99, 0), 64);
    due("17 by 0", x.safe(0, 0), 1);
    x = Checks.house("knocker 0" + ALL.replace(" 7", "") + "errand 7 9 9;");
    due("17 none is RIGHT", x.safe(8, 0), 128);
    due("17 none is RIGHT, all SIGNS", x.safe(9, 0), NONE);
    due("17 all are RIGHT", Checks.house("knocker 1 5;errand 5 1 9;").safe(99, 0), 32);
  }

  /** By p (0 .. 10): 0 none fails, 10 all do; a fraction in least terms, 0 and 1 too. */
  private static void odds() {
    WhitePaw x = Checks.house("knocker 1 0;knocker 0;knocker 1" + ALL + "rule 1 0;");
    for (int p = 0; p <= 10; p++) {
      due("18 one SIGN, upper, by " + p, x.odds(0, p, 0), new int[] {1, 9, 4, 7, 3, 1, 2, 3, 1, 1, 0}[p]);
      due("18 one SIGN, lower, by " + p, x.odds(0, p, 1), new int[] {1, 10, 5, 10, 5, 2, 5, 10, 5, 10, 1}[p]);
      due("18 no SIGNS, upper, by " + p, x.odds(1, p, 0), 0);
      due("18 no SIGNS, lower, by " + p, x.odds(1, p, 1), 1);
      due("18 SIGNS that do not matter, upper, by " + p, x.odds(2, p, 0), x.odds(0, p, 0));
      due("18 SIGNS that do not matter, lower, by " + p, x.odds(2, p, 1), x.odds(0, p, 1));
    }
    x.change(0, 255, 8);
    due("18 all of eight, by 9", x.odds(2, 9, 0), 1);
    due("18 of a hundred million", x.odds(2, 9, 1), 100000000);
    x.change(0, 255, 1);
    due("18 one of eight, by 9", x.odds(2, 9, 0), 100000000 - 43046721);
    due("18 one of eight, by 9: lower", x.odds(2, 9, 1), 100000000);
    due("18 one of eight, by 5", x.odds(2, 5, 0), 255);
    due("18 one of eight, by 5: lower", x.odds(2, 5, 1), 256);
  }

  private static void oddsInLeastTerms() {
    WhitePaw x = Checks.house("knocker 0 1 2 3;knocker 1;");
    for (int p = 0; p <= 10; p++) {
      due("18 no RULES: for sure", x.odds(0, p, 0), 1);
      due("18 no RULES: for sure, lower", x.odds(0, p, 1), 1);
      due("18 no RULES, no SIGNS", x.odds(1, p, 0), 1);
    }
    x = Checks.house("knocker 0 1 2;rule 1 1;rule 1 2;rule 2 1 2;");
    due("18 each of several RULES", x.odds(0, 4, 0), 9);
    due("18 each of several RULES, lower", x.odds(0, 4, 1), 25);
    x.change(0, 4, 1);
    x.change(2, 6, 1);
    due("18 one SIGN for all", x.odds(0, 4, 0), 3);
    due("18 one SIGN for all, lower", x.odds(0, 4, 1), 5);
    due("18 nothing is changed", x.knocker(0, 1), 6);
  }

  // ---- who it was

  /** SHOWN (6 at most). */
  private static void shown() {
    for (int sign = 0; sign < 8; sign++) {
      for (int has = 0; has < 2; has++) {
        WhitePaw x = Checks.house("knocker 1 " + sign + ";knocker 0;");
        for (int i = 1; i <= 6; i++) due("19 how much", x.shown(sign, has), i);
        due("19 FULL", x.shown(sign, 1 - has), FULL);
        due("21 the seventh was not SHOWN", x.who(), has == 1 ? 1 : 2);
        due("20 how much there was", x.forget(), 6);
        due("21 nothing was", x.who(), 3);
        due("19 from one on again", x.shown(sign, 1 - has), 1);
        due("21 this alone", x.who(), has == 1 ? 2 : 1);
        due("19 its opposite, too", x.shown(sign, has), 2);
        due("21 nobody", x.who(), 0);
      }
    }
  }

  /** WHO, by SIGNS as they are when it is asked: by the last of six, too. */
  private static void who() {
    WhitePaw x = Checks.house("knocker 1 0 1 2 3 4 5;knocker 0 0 1 2 3 4;knocker 1 0 1 2 3 4 5 7;errand 5 1 9;");
    for (int sign = 0; sign < 5; sign++) x.shown(sign, 1);
    due("21 five were SHOWN", x.who(), 7);
    x.shown(5, 1);
    due("21 six were SHOWN", x.who(), 5);
    x.runs(1, 0);
    due("21 he has it now", x.who(), 7);
    x.hoarse(0, 0);
    due("21 he has it no more", x.who(), 6);
    x.undo();
    x.undo();
    due("21 as ahead of these", x.who(), 5);
    due("21 five KNOCKERS", Checks.house("knocker 0;".repeat(5)).who(), 31);
    x = new WhitePaw();
    x.shown(0, 0);
    due("21 nobody is there", x.who(), 0);
  }

  /** TELL: the SIGN by which, SHOWN, the most of those left at worst were the fewest, of several the least; NONE. */
  private static void tell() {
    for (int sign = 0; sign < 8; sign++) {
      WhitePaw x = Checks.house("knocker 1 " + sign + ";knocker 0;knocker 0 " + sign + ";knocker 1;");
      due("22 SIGN " + sign + " alone tells", x.tell(0), sign);
      due("22 two are left", x.tell(1), 2);
      x = Checks.house("knocker 1 " + sign + ";knocker 0 " + sign + ";");
      due("22 none tells: the least SIGN", x.tell(0), 0);
      due("22 none tells: all are left", x.tell(1), 2);
    }
    WhitePaw x = Checks.house("knocker 0 5 7;knocker 0 5 6;knocker 0 5;knocker 0;knocker 0;");
    due("22 three or two: three at worst", x.tell(1), 3);
    due("22 by that SIGN", x.tell(0), 5);
    x = Checks.house("knocker 0 1 2;knocker 0 1;knocker 0 2;knocker 0;");
    due("22 of several the least", x.tell(0), 1);
    x.shown(1, 1);
    due("22 of those left", x.tell(0), 2);
    x.shown(2, 0);
    due("22 one is left: the least SIGN", x.tell(0), 0);
    due("22 one is left", x.tell(1), 1);
    x.shown(7, 1);
    due("22 none can have been it", x.tell(0), NONE);
    due("22 none can have been it, how many", x.tell(1), NONE);
    x.forget();
    for (int i = 0; i < 6; i++) x.shown(1, 1);
    due("22 six were SHOWN: still the SIGN", x.tell(0), 2);
    due("22 six were SHOWN: still how many", x.tell(1), 1);
    due("19 nothing was SHOWN by it", x.count(3), 6);
    due("22 one KNOCKER", Checks.house("knocker 1 3;").tell(1), 1);
  }

  // ---- kinds, images

  /** RATE: with none of all, with the most of all. */
  private static void rates() {
    WhitePaw none = Checks.house("knocker 1;rule 1 0;");
    for (int kind = 0; kind < 6; kind++) due("23 of one who has nothing, KIND " + kind, none.rate(kind, 0), 0);
    WhitePaw x = Checks.house("loud" + ALL + "knocker 0;".repeat(4) + "knocker 0" + ALL + "errand 0 9 9;" + "rule 1 0;".repeat(4));
    int[] most = {8, 12, 8, 24, 12, 16};
    for (int kind = 0; kind < 6; kind++) due("23 of one who has all, KIND " + kind, x.rate(kind, 4), most[kind]);
    for (int i = 0; i < 11; i++) {
      x.hoarse(4, 0);
      x.runs(4, 0);
    }
    due("5 99 HOURS", x.knocker(4, 2), 99);
    int[] tired = {8, 12, -91, 24, -87, 16};
    for (int kind = 0; kind < 6; kind++) due("23 behind 99 HOURS, KIND " + kind, x.rate(kind, 4), tired[kind]);
    for (int k = 0; k < 4; k++) due("23 his number, " + k, x.rate(4, k), k);
    x.change(1, 2, 1);
    x.hoarse(4, 1);
    due("23 enough for three of the RULES", x.rate(1, 4), 7 + 3);
    due("23 twice that", x.rate(3, 4), 2 * (7 + 3));
    WhitePaw quiet = Checks.house("loud 7;knocker 0 0 1 7;");
    due("23 one of his SIGNS is LOUD", quiet.rate(5, 0), 4);
    quiet.hoarse(0, 7);
    due("23 none is LOUD", quiet.rate(5, 0), 2);
  }

  /** As often as rate() asks that body: each once; nothing else adds to THE TRACE. */
  private static void traces() {
    WhitePaw x = Checks.house("loud 0;knocker 1 0;knocker 0;errand 1 1 9;rule 1 0;");
    long trace = 0;
    long[] adds = {1, 11, 101, 1011, 10101, 100001};
    for (int turn = 0; turn < 3; turn++) {
      for (int kind = 0; kind < 6; kind++) {
        x.rate(kind, turn % 2);
        trace += adds[kind];
        due("27 behind KIND " + kind, x.trace(), trace);
      }
    }
    for (int i = 0; i < 12; i++) x.rate(0, 0);
    due("27 more than ten of one body", x.trace(), trace + 12);
    x.now(0);
    x.keep(0);
    x.change(0, 1, 1);
    x.tell(0);
    x.safe(9, 0);
    x.runs(0, 0);
    x.undo();
    x.back(0);
    x.house();
    due("27 nothing else adds", x.trace(), trace + 12);
    due("23 nobody is there any more", x.rate(0, 0), WhitePaw.NO);
    due("27 nor does a refused one", x.trace(), trace + 12);
  }

  /** THE TRACE over as many calls as an object is good for. */
  private static void theLongestTrace() {
    WhitePaw x = Checks.house("knocker 1;");
    for (int i = 1; i <= 500; i++) {
      x.rate(5, 0);
      if (i % 100 == 0) due("27 behind " + i + " FOXES", x.trace(), i * 100001L);
    }
  }

  /** IMAGES 0, 1 keep NOW (SIGNS, HOURS, RULES). */
  private static void images() {
    for (int image = 0; image < 2; image++) {
      WhitePaw x = Checks.house("knocker 1 0;knocker 0;knocker 0;knocker 0;knocker 0 7;errand 3 9 9;rule 1 0;rule 1 0;rule 1 0;rule 1 0;");
      due("25 none was kept", x.back(image), STATE);
      due("24 kept", x.keep(image), 1);
      due("25 the other was not", x.back(1 - image), STATE);
      x.runs(4, 0);
      x.hoarse(0, 0);
      x.change(3, 8, 1);
      due("13 three are known", x.now(3), 3);
      due("25 back", x.back(image), 1);
      due("25 HOURS", x.knocker(4, 2), 0);
      due("25 SIGNS of the last one", x.knocker(4, 1), 128);
      due("25 SIGNS of the first one", x.knocker(0, 1), 1);
      due("25 the last RULE", x.rule(3, 0), 1);
      due("25 nothing can be UNDONE", x.undo(), STATE);
      due("13 none is known", x.now(3), 0);
      x.hoarse(0, 0);
      due("25 back again", x.back(image), 1);
      x.hoarse(0, 0);
      due("24 kept over it", x.keep(image), 0);
      due("12 keeping takes nothing from what is known", x.undo(), 0);
      due("25 what was kept last", x.back(image), 0);
    }
  }

  /** Nothing else: THE TEXT, what was SHOWN, THE TRACE, the other IMAGE stay as they are. */
  private static void imagesAndTheRest() {
    WhitePaw x = Checks.house("knocker 1 0;rule 1 0;");
    x.keep(0);
    x.shown(0, 1);
    x.shown(1, 1);
    Checks.type(x, "loud");
    x.rate(1, 0);
    x.hoarse(0, 0);
    x.keep(1);
    due("25 back to IMAGE 0", x.back(0), 1);
    due("25 what was SHOWN", x.count(3), 2);
    due("25 THE TEXT", x.count(4), 4);
    due("25 THE TRACE", x.trace(), 11);
    due("25 IMAGE 1 is as it was", x.back(1), 0);
    due("4 a FAULT", x.house(), -14);
    due("25 IMAGES stay behind a FAULT", x.back(0), 1);
    x.clear();
    Checks.type(x, "knocker 1 0;rule 1 0;");
    due("4 the same house anew", x.house(), 2);
    due("25 IMAGE 0 is gone", x.back(0), STATE);
    due("25 IMAGE 1 is gone", x.back(1), STATE);
    due("24 it can be kept again", x.keep(1), 1);
    due("25 that one alone", x.back(0), STATE);
    due("25 and is there", x.back(1), 1);
  }

  /** An object is used for at most 512 calls: the 512th is answered as the first. */
  private static void calls() {
    WhitePaw x = new WhitePaw();
    x.type(0x6C6F7564L, 4);
    x.type(0x20373BL, 3);
    due("4 the third call", x.house(), 1);
    for (int i = 4; i < 512; i++) due("13 call " + i, x.now(4), 128);
    due("26 the 512th call", x.count(4), 0);
  }
}
