import java.util.List;

/** The bounds of THE TEXT and of what stands in it: each byte, each NUMBER, each word, each place where it can end. */
public final class TextEdgeTests {
  private static final int FULL = WhitePaw.FULL;
  private static final int GOOD = -1;
  private static final List<String> WORDS = List.of("loud", "knocker", "errand", "rule");

  /** All four kinds of ITEMS, each TOKEN once with blanks beside it and once without, where both may be. */
  private static final String WHOLE = "  loud 0 7 ;knocker0 1 2;knocker 1;  errand 7 9 9;errand0 1 7 ; rule2 0 1 2;rule 1 7;";

  private static final Checks checks = new Checks();

  public static void main(String[] args) {
    lengths();
    bytesTyped();
    pieces();
    blanks();
    items();
    tooMany();
    numbers();
    numbersOfOneRow();
    signsOfARow();
    toldTwice();
    enoughForARule();
    everyByte();
    everyLetter();
    wordsRunTogether();
    endsTooEarly();
    lastBytes();
    readAnew();
    checks.end("TextEdgeTests");
  }

  private static void due(String call, long got, long want) {
    checks.due(call, got, want);
  }

  private static void fault(String text, int want) {
    due("4 FAULT of " + text, Checks.fault(text), want);
  }

  // ---- THE TEXT

  /** (300 bytes at most), n (1 .. 8): FULL just where it were more. */
  private static void lengths() {
    for (int had = 0; had <= 300; had += had < 288 ? 32 : 1) {
      for (int n = 1; n <= 8; n++) {
        WhitePaw x = new WhitePaw();
        Checks.type(x, " ".repeat(had));
        due("2 type behind " + had + ", " + n, x.type(0x2020202020202020L, n), had + n <= 300 ? had + n : FULL);
        due("26 bytes behind it", x.count(4), had + n <= 300 ? had + n : had);
        due("4 the blanks are a text of no ITEMS", x.house(), 0);
        due("3 clear() behind house()", x.clear(), 0);
      }
    }
    WhitePaw x = new WhitePaw();
    Checks.type(x, " ".repeat(300));
    due("2 one more", x.type(' ', 1), FULL);
    due("3 clear() of 300", x.clear(), 300);
    due("2 there is room again", x.type(' ', 1), 1);
  }

  /** The lowest n bytes of v, the highest of them first; the bytes above these do not matter. */
  private static void bytesTyped() {
    String text = "rule 1 0";
    long v = 0;
    for (char byteOf : text.toCharArray()) v = v << 8 | byteOf;
    for (int n = 1; n <= 8; n++) {
      WhitePaw low = new WhitePaw();
      due("2 the lowest " + n, low.type(v, n), n);
      due("2 they are the last of the row", low.house(), -10 - Checks.fault(text.substring(8 - n)));
      WhitePaw high = new WhitePaw();
      high.type(v >>> 8 * (8 - n), n);
      due("2 the first of the row, moved down", high.house(), -10 - Checks.fault(text.substring(0, n)));
    }
    long stop = ';';
    for (long above : new long[] {0, -1L << 8, Long.MIN_VALUE, Long.MAX_VALUE << 8, 1L << 8, 1L << 32, 0x6C6F756400L}) {
      WhitePaw x = new WhitePaw();
      Checks.type(x, "loud");
      due("2 one byte of a v with others above", x.type(above | stop, 1), 5);
      due("4 it alone has come", x.house(), 1);
    }
    for (long v8 : new long[] {-1L, Long.MIN_VALUE, Long.MAX_VALUE, 0}) {
      WhitePaw x = new WhitePaw();
      Checks.type(x, " ");
      due("2 eight bytes of " + v8, x.type(v8, 8), 9);
      due("4 the first of them begins no TOKEN", x.house(), -11);
    }
  }

  /** A text is the same in whatever pieces it comes. */
  private static void pieces() {
    for (int size = 1; size <= 8; size++) {
      WhitePaw x = new WhitePaw();
      for (int from = 0; from < WHOLE.length(); from += size) {
        Checks.type(x, WHOLE.substring(from, Math.min(WHOLE.length(), from + size)));
      }
      due("2 pieces of " + size, x.count(4), WHOLE.length());
      due("4 pieces of " + size, x.house(), 7);
      due("4 the last RULE", x.rule(1, 0), 128);
    }
  }

  // ---- blanks, ITEMS

  /** Blanks, any number, ahead of, between, behind TOKENS (needed only between two rows of letters, two NUMBERS). */
  private static void blanks() {
    for (String tokens : List.of("loud_0_7_;", "knocker_1_0_7_;", "errand_7_9_0_;", "rule_2_0_7_;")) {
      for (int many = 0; many <= 41; many += many < 3 ? 1 : 19) {
        String wide = tokens.replace("_", " ".repeat(Math.max(1, many)));
        fault(" ".repeat(many) + wide + " ".repeat(many), GOOD);
      }
      String between = tokens.replaceFirst("_", "").replace("_;", ";").replace('_', ' ');
      fault(between, GOOD);
      fault(between + "knocker1;" + tokens.replace('_', ' ').replace("loud", "rule 1"), GOOD);
    }
    fault("errand 7 91;", 9);
    fault("rule 10;", 5);
    fault("loud 0 ;rule 1 0 ;", GOOD);
    fault(" ", GOOD);
    fault(" ".repeat(299), GOOD);
  }

  /** ITEMS (none, too), each ended by ; : how many, in any order. */
  private static void items() {
    due("4 no text", new WhitePaw().house(), 0);
    WhitePaw x = new WhitePaw();
    Checks.type(x, "rule 1 0;errand 0 1 9;knocker 1;loud;rule 1 1;knocker 0 5;errand 1 2 0;");
    due("4 ITEMS in any order", x.house(), 7);
    due("5 the second KNOCKER", x.knocker(1, 1), 32);
    due("6 the second ERRAND", x.errand(1, 2), 0);
    due("7 the second RULE", x.rule(1, 0), 2);
    for (String item : List.of("loud", "knocker 0", "errand 0 1 9", "rule 1 0")) {
      fault(item + ";", GOOD);
      fault(item + ";;", item.length() + 1);
      fault(";" + item + ";", 0);
      fault(item + " loud;", item.length() + 1);
    }
    fault("errand 0 1 9 9;", 13);
    fault("0;", 0);
  }

  /** A second loud, a sixth knocker, a seventh errand, a fifth rule: at that word, whatever stands behind it. */
  private static void tooMany() {
    String[] items = {"loud;", "knocker 1;", "errand 0 1 9;", "rule 1 0;"};
    int[] most = {1, 5, 6, 4};
    for (int kind = 0; kind < items.length; kind++) {
      String others = items[(kind + 1) % 4];
      for (int many = 0; many <= most[kind]; many++) {
        WhitePaw x = Checks.house(items[kind].repeat(many) + others);
        int[] counts = {x.count(0), x.count(1), x.count(2)};
        if (kind > 0) due("26 " + many + " times " + items[kind], counts[kind - 1], many);
      }
      String full = items[kind].repeat(most[kind]);
      fault(full + items[kind], full.length());
      fault(full + others + "  " + items[kind], full.length() + others.length() + 2);
      fault(full + WORDS.get(kind), full.length());
      fault(full + WORDS.get(kind) + " 99 #", full.length());
      fault(full + others, GOOD);
    }
    fault("loud 1;loud;", 7);
    fault("loud;loud 1;", 5);
    due("4 the most of all", Checks.house("knocker 1;".repeat(5) + "errand 0 1 9;".repeat(6) + "rule 1 0;".repeat(4) + "loud;").count(1), 6);
  }

  // ---- NUMBERS

  /** Each NUMBER in each place: just those that it may be can stand there. */
  private static void numbers() {
    slot("loud #;", 0, 7);
    slot("loud#;", 0, 7);
    slot("knocker #;", 0, 1);
    slot("knocker # 0 7;", 0, 1);
    slot("knocker 1 #;", 0, 7);
    slot("knocker 0 #;", 0, 7);
    slot("errand # 1 9;", 0, 7);
    slot("errand 7 # 9;", 1, 9);
    slot("rule # 0 1 2 3 4 5 6 7;", 1, 8);
    slot("rule 1 #;", 0, 7);
    slot("rule 8 0 1 2 3 4 5 6 #;", 7, 7);
    for (int n = 0; n <= 100; n++) {
      boolean may = n <= 7 || n == 9;
      fault("errand 6 1 " + n + ";", may ? GOOD : 11);
      if (may) due("6 what it needs", Checks.house("errand 6 1 " + n + ";").errand(0, 2), n);
    }
  }

  private static void slot(String text, int least, int most) {
    int place = text.indexOf('#');
    for (int n = 0; n <= 130; n++) fault(text.replace("#", "" + n), n >= least && n <= most ? GOOD : place);
    List<String> none = List.of("00", "01", "07", "09", "000", "0000001", "256", "257", "999", "65536", "4294967296", "4294967297",
        "18446744073709551617", "-1", "+1", ".1", "#", "\0");
    for (String not : none) fault(text.replace("#", not), place);
    if (place > 5) {
      for (String word : WORDS) fault(text.replace("#", word), place);
    }
  }

  /** A NUMBER is a row of digits, as long as it may be. */
  private static void numbersOfOneRow() {
    for (int digits = 1; digits <= 250; digits += digits < 5 ? 1 : 49) {
      fault("loud " + "1".repeat(digits) + ";", digits == 1 ? GOOD : 5);
      fault("loud " + "0".repeat(digits) + ";", digits == 1 ? GOOD : 5);
      fault("loud " + "0".repeat(digits), digits == 1 ? 6 : 5);
    }
    fault("loud 1.0;", 6);
    fault("loud 1,2;", 6);
    fault("loud 1loud;", 6);
    fault("loud 1x;", 6);
  }

  /** SIGNS: 0 to 8 of them (loud, knocker), 1 to 8 of them (rule). */
  private static void signsOfARow() {
    StringBuilder row = new StringBuilder();
    for (int many = 0; many <= 8; many++) {
      int set = (1 << many) - 1;
      due("13 LOUD, " + many + " SIGNS", Checks.house("loud" + row + ";").now(4), set);
      due("5 " + many + " SIGNS", Checks.house("knocker 1" + row + ";").knocker(0, 1), set);
      if (many > 0) due("7 " + many + " SIGNS", Checks.house("rule 1" + row + ";").rule(0, 0), set);
      row.append(' ').append(many);
    }
    for (int ninth = 0; ninth <= 9; ninth++) {
      fault("loud 0 1 2 3 4 5 6 7 " + ninth + ";", 21);
      fault("knocker 0 0 1 2 3 4 5 6 7 " + ninth + ";", 26);
      fault("rule 8 0 1 2 3 4 5 6 7 " + ninth + ";", 23);
    }
    fault("rule 1;", 6);
    for (int sign = 0; sign < 8; sign++) {
      WhitePaw x = Checks.house("loud " + sign + ";knocker 0 " + sign + ";rule 1 " + sign + ";");
      due("13 LOUD " + sign, x.now(4), 1 << sign);
      due("5 SIGN " + sign, x.knocker(0, 1), 1 << sign);
      due("7 SIGN " + sign, x.rule(0, 0), 1 << sign);
    }
  }

  /** A SIGN told twice in an ITEM: the second time. R, K, H are no SIGNS. */
  private static void toldTwice() {
    for (String start : List.of("loud ", "knocker 0 ", "knocker 1 ", "rule 1 ", "rule 2 ")) {
      for (int a = 0; a < 8; a++) {
        for (int b = 0; b < 8; b++) fault(start + a + " " + b + ";", a == b ? start.length() + 2 : GOOD);
        int other = (a + 3) % 8;
        fault(start + a + " " + other + " " + a + ";", start.length() + 4);
      }
    }
    fault("loud 1;knocker 1 1;knocker 0 1;rule 1 1;", GOOD);
    fault("errand 1 1 0;errand 1 1 0;", GOOD);
    fault("errand 3 3 9;", GOOD);
  }

  /** The ; behind fewer SIGNS than a rule's K. */
  private static void enoughForARule() {
    String row = "";
    for (int many = 0; many <= 8; many++) {
      for (int k = 0; k <= 10; k++) {
        String text = "rule " + k + row + ";";
        int stop = text.length() - 1;
        fault(text, k < 1 || k > 8 ? 5 : many < k ? stop : GOOD);
        if (k >= 1 && many < k && k <= 8) fault(text + "loud;", stop);
        if (k >= 1 && many >= k) due("7 the number", Checks.house(text).rule(0, 1), k);
      }
      row += " " + many;
    }
    fault("rule 2 0 loud;", 9);
    fault("rule 2 0   ;", 11);
  }

  // ---- bytes, words

  /** Each byte (0 .. 255), in four places. */
  private static void everyByte() {
    for (char one = 0; one < 256; one++) {
      boolean letter = one >= 'a' && one <= 'z';
      boolean digit = one >= '0' && one <= '9';
      boolean blank = one == ' ';
      fault(one + " loud;", blank ? GOOD : 0);
      fault("loud" + one + ";", blank || one >= '0' && one <= '7' ? GOOD : letter ? 0 : one == ';' ? 5 : 4);
      fault("loud 2" + one + ";", blank ? GOOD : digit ? 5 : one == ';' ? 7 : 6);
      fault("loud 2 " + one + " ;", blank || digit && one < '8' && one != '2' ? GOOD : one == ';' ? 9 : 7);
      fault("loud 2;" + one, blank ? GOOD : 7);
    }
  }

  /** A word that is none of these: that TOKEN's place. */
  private static void everyLetter() {
    for (String word : WORDS) {
      for (int i = 0; i < word.length(); i++) {
        String ahead = word.substring(0, i);
        String behind = word.substring(i + 1);
        fault(" " + ahead + behind + " 1 1 9;", 1);
        for (char one = 'a'; one <= 'z'; one++) {
          if (one != word.charAt(i)) fault("  " + ahead + one + behind + " 1 1 9;", 2);
          fault("  " + ahead + one + word.charAt(i) + behind + " 1 1 9;", 2);
        }
        fault(" " + ahead + Character.toUpperCase(word.charAt(i)) + behind + ";", 1);
      }
      fault(word + "s 1 1 9;", 0);
      fault(word.repeat(2) + " 1 1 9;", 0);
      fault("x".repeat(100) + word, 0);
      fault("loud 1 " + word, 7);
      fault("loud 1 " + word + "x", 7);
    }
  }

  private static void wordsRunTogether() {
    fault("loud;knocker1;errand1 1 9;rule1 1;", GOOD);
    fault("loudknocker 1;", 0);
    fault("loud;ruleerrand 1 1 9;", 5);
    fault("z".repeat(300), 0);
    fault("9".repeat(300), 0);
    fault(";".repeat(300), 0);
  }

  // ---- its end

  /** The text's length, if it ends too early; a word cut short is a word that is none of these. */
  private static void endsTooEarly() {
    for (int length = 0; length <= WHOLE.length(); length++) {
      String text = WHOLE.substring(0, length);
      String bare = text.stripTrailing();
      int word = bare.length();
      while (word > 0 && Character.isLetter(bare.charAt(word - 1))) word--;
      boolean cut = word < bare.length() && !WORDS.contains(bare.substring(word));
      boolean ended = bare.isEmpty() || bare.endsWith(";");
      fault(text, ended ? GOOD : cut ? word : length);
      fault(text + "    ", ended ? GOOD : cut ? word : length + 4);
    }
  }

  /** At the end of 300 bytes. */
  private static void lastBytes() {
    fault(" ".repeat(295) + "loud;", GOOD);
    fault(" ".repeat(296) + "loud", 300);
    fault(" ".repeat(297) + "lou", 297);
    fault(" ".repeat(299) + ";", 299);
    fault(" ".repeat(299) + "1", 299);
    fault(" ".repeat(299) + "#", 299);
    fault(" ".repeat(294) + "loud 1", 300);
    fault(" ".repeat(293) + "loud 10", 298);
    fault("loud 1" + " ".repeat(294), 300);
    fault("loud 1" + " ".repeat(293) + ";", GOOD);
    fault("loud 1;" + " ".repeat(293), GOOD);
    String signs = "0 1 2 3 4 5 6 7;";
    String most = ("knocker1 " + signs).repeat(5) + ("rule8 " + signs).repeat(4) + "errand0 1 9;".repeat(6);
    WhitePaw x = Checks.house(most + " ".repeat(300 - most.length()));
    due("4 a full text, all KNOCKERS", x.count(0), 5);
    due("4 a full text, the last ERRAND", x.errand(5, 1), 1);
    due("4 a full text, the last RULE", x.rule(3, 1), 8);
  }

  /** A house of all kinds, each asked about, so that all that is kept aside holds something. */
  private static WhitePaw asked(int right) {
    WhitePaw x = Checks.house("loud 0 1 2 3 4 5 6 7;" + ("knocker " + right + " 0 1;").repeat(5)
        + "errand 4 1 9;errand 5 1 9;errand 6 1 9;errand 7 1 9;rule 1 0;rule 1 0;rule 1 0;");
    x.safe(99, 0);
    x.soonest(4, 0);
    x.rate(5, 0);
    x.shown(0, 1);
    return x;
  }

  /** What is not told as at first: a smaller house behind a larger one leaves nothing of it. */
  private static void readAnew() {
    for (int right = 0; right < 2; right++) {
      smallerHouse(asked(right));
      noRulesAnyMore(asked(right));
      nothingTold(asked(right));
    }
  }

  private static void smallerHouse(WhitePaw x) {
    Checks.type(x, "loud 0 1;knocker 0 0 1;knocker 0;errand 4 1 9;rule 1 1;");
    due("4 a smaller house", x.house(), 5);
    due("13 who is LET IN", x.now(0), 1);
    due("13 who isn't RIGHT", x.now(1), 1);
    due("13 no RIGHT ones", x.now(2), 0);
    due("16 ask", x.ask(0), 4);
    due("17 safe", x.safe(99, 0), 4);
    due("14 soonest", x.soonest(1, 0), -9);
    due("15 bar", x.bar(1, 99), -5);
    due("23 enough for one RULE", x.rate(1, 0), 3);
    due("9 heard", x.knocks(0, 1), 1);
    due("5 of the one RULE that there is", x.knocker(1, 1), 2);
    due("27 THE TRACE goes on", x.trace(), 100001 + 11);
  }

  private static void noRulesAnyMore(WhitePaw x) {
    Checks.type(x, "knocker 0 2;knocker 1 5;errand 5 3 9;");
    due("4 no RULES any more", x.house(), 3);
    due("13 nothing is LOUD", x.now(4), 0);
    due("13 everybody is LET IN", x.now(0), 3);
    due("13 who isn't RIGHT", x.now(1), 1);
    due("13 RIGHT ones kept out", x.now(2), 0);
    due("21 who", x.who(), 3);
    due("22 tell, the SIGN", x.tell(0), 2);
    due("22 tell, how many", x.tell(1), 1);
    due("16 ask", x.ask(0), 32);
    due("17 safe, ahead of the ERRAND", x.safe(2, 0), 32);
    due("17 safe, behind it", x.safe(3, 0), -9);
    due("14 soonest", x.soonest(0, 0), 0);
    due("9 nothing is heard", x.knocks(0, 1), 1);
    due("5 nothing was heard", x.knocker(1, 1), 32);
  }

  private static void nothingTold(WhitePaw x) {
    due("4 nothing is told", x.house(), 0);
    due("16 ask", x.ask(0), 1);
    due("17 safe", x.safe(99, 0), 1);
    due("21 who", x.who(), 0);
    due("22 tell", x.tell(0), -9);
    due("13 nobody is LET IN", x.now(0), 0);
    due("13 no RIGHT ones", x.now(2), 0);
    due("13 nothing is LOUD", x.now(4), 0);
    for (int what = 0; what < 5; what++) due("26 count", x.count(what), 0);
  }
}
