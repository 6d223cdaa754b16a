/** Each promise of the document: ordinary inputs, the edges that it names, wrong inputs. */
public final class PromiseTests {
  private static final int BAD = WhitePaw.BAD, STATE = WhitePaw.STATE, FULL = WhitePaw.FULL, NONE = WhitePaw.NONE;
  private static final int MIN = Integer.MIN_VALUE, MAX = Integer.MAX_VALUE;

  /** Two RIGHT ones, two others; three ERRANDS; a RULE of two, a RULE of one. */
  private static final String HOME = "loud 0 2 7;knocker 1 0 1 2;knocker 0 4;knocker 1 1 3;knocker 0;"
      + "errand 0 3 4;errand 1 2 9;errand 2 5 0;rule 2 0 1 2;rule 1 1 3;";

  private static final Checks checks = new Checks();

  public static void main(String[] args) {
    constants();
    aNewObject();
    type();
    clear();
    house();
    tokens();
    faults();
    knocker();
    errand();
    rule();
    runs();
    knocks();
    hoarse();
    change();
    undo();
    now();
    soonest();
    bar();
    ask();
    safe();
    odds();
    shown();
    forget();
    who();
    tell();
    rate();
    images();
    count();
    trace();
    refusedChangesNothing();
    checks.end("PromiseTests");
  }

  private static void due(String call, long got, long want) {
    checks.due(call, got, want);
  }

  private static void constants() {
    due("BAD", WhitePaw.BAD, -1);
    due("STATE", WhitePaw.STATE, -2);
    due("FULL", WhitePaw.FULL, -3);
    due("NONE", WhitePaw.NONE, -9);
    due("NO", WhitePaw.NO, -1000000);
  }

  private static void aNewObject() {
    WhitePaw x = new WhitePaw();
    for (int what = 0; what < 5; what++) due("1 count", x.count(what), 0);
    for (int what = 0; what < 5; what++) due("1 now", x.now(what), 0);
    due("1 knocker", x.knocker(0, 0), BAD);
    due("1 errand", x.errand(0, 0), BAD);
    due("1 rule", x.rule(0, 0), BAD);
    due("1 undo", x.undo(), STATE);
    due("1 back", x.back(0), STATE);
    due("1 who", x.who(), 0);
    due("1 forget", x.forget(), 0);
    due("1 trace", x.trace(), 0);
    due("1 ask", x.ask(0), 1);
    due("1 safe", x.safe(99, 1), 1);
  }

  private static void type() {
    WhitePaw x = new WhitePaw();
    due("2 n of 0", x.type(59, 0), BAD);
    due("2 n of 9", x.type(59, 9), BAD);
    due("2 n of -1", x.type(59, -1), BAD);
    due("2 least n", x.type(59, MIN), BAD);
    due("2 most n", x.type(59, MAX), BAD);
    due("2 the lowest alone", x.type(0x7878786C6FL, 2), 2);
    due("2 the highest first", x.type(0x7564203BL, 4), 6);
    due("2 the text", x.house(), 1);
    for (int i = 1; i <= 8; i++) due("2 n of " + i, x.type(0x2020202020202020L, i), i * (i + 1) / 2);
    due("2 a negative v", x.type(-1L, 8), 44);
    due("2 its place", x.house(), -46);
    x.clear();
    for (int i = 1; i <= 37; i++) due("2 eights", x.type(0x2020202020202020L, 8), 8 * i);
    due("2 more than fits", x.type(0, 5), FULL);
    due("2 nothing of it came", x.count(4), 296);
    due("2 BAD ahead of FULL", x.type(0, 9), BAD);
    due("2 just fits", x.type(0x20202020L, 4), 300);
    due("2 no more", x.type(0, 1), FULL);
    due("2 three hundred blanks", x.house(), 0);
    due("2 empty then", x.count(4), 0);
  }

  private static void clear() {
    WhitePaw x = new WhitePaw();
    due("3 nothing", x.clear(), 0);
    Checks.type(x, "loud 8");
    due("3 had", x.clear(), 6);
    due("3 empty", x.count(4), 0);
    due("3 again", x.clear(), 0);
    due("3 an empty text", x.house(), 0);
    x = Checks.house(HOME);
    x.clear();
    due("3 the house stays", x.count(0), 4);
  }

  private static void house() {
    WhitePaw x = new WhitePaw();
    Checks.type(x, HOME);
    due("4 items", x.house(), 10);
    due("4 text is empty", x.count(4), 0);
    due("4 loud", x.now(4), 133);
    x.runs(1, 1);
    x.shown(1, 1);
    x.keep(1);
    x.rate(0, 0);
    Checks.type(x, "knocker 2;");
    due("4 a fault", x.house(), -18);
    due("4 the text stays", x.count(4), 10);
    due("4 the house stays", x.count(0), 4);
    due("4 the evening stays", x.knocker(1, 2), 2);
    due("4 the same fault", x.house(), -18);
    due("4 what was shown stays", x.count(3), 1);
    due("4 undo stays", x.now(3), 1);
    due("4 an image stays", x.back(1), 1);
    x.clear();
    Checks.type(x, "knocker 1 5;");
    due("4 anew", x.house(), 1);
    due("4 one knocker", x.count(0), 1);
    due("4 no errands", x.count(1), 0);
    due("4 no rules", x.count(2), 0);
    due("4 nothing shown", x.count(3), 0);
    due("4 nothing loud", x.now(4), 0);
    due("4 images are gone", x.back(1), STATE);
    due("4 nothing to undo", x.undo(), STATE);
    due("4 no hours", x.knocker(0, 2), 0);
    due("4 the trace goes on", x.trace(), 1);
    x.hoarse(0, 5);
    due("4 an empty text", x.house(), 0);
    due("4 nobody", x.count(0), 0);
    due("4 nothing to undo behind it", x.undo(), STATE);
    Checks.type(x, "loud 1;");
    due("4 loud", x.house(), 1);
    Checks.type(x, "loud 2;");
    due("4 loud again, in another text", x.house(), 1);
    due("4 what was told last", x.now(4), 4);
    mostOfAll();
  }

  private static void mostOfAll() {
    WhitePaw x = new WhitePaw();
    String all = "knocker 1;".repeat(5) + "errand 0 1 9;".repeat(6) + "rule 1 0;".repeat(4);
    Checks.type(x, all + "loud;");
    due("4 most of all", x.house(), 16);
    due("4 knockers", x.count(0), 5);
    due("4 errands", x.count(1), 6);
    due("4 rules", x.count(2), 4);
    due("4 a sixth knocker", Checks.fault("knocker 1;".repeat(6)), 50);
    due("4 a seventh errand", Checks.fault("errand 0 1 9;".repeat(7)), 78);
    due("4 a fifth rule", Checks.fault("rule 1 0;".repeat(5)), 36);
    due("4 a second loud", Checks.fault("loud 1;loud 2;"), 7);
  }

  private static void tokens() {
    due("4 no blanks", Checks.fault("loud0 1;knocker1 2;errand1 2 3;rule1 1;"), -1);
    due("4 many blanks", Checks.fault("   loud   0   1 ;  knocker  1  ;  "), -1);
    due("4 eight signs", Checks.fault("loud 7 6 5 4 3 2 1 0;rule 8 0 1 2 3 4 5 6 7;"), -1);
    due("4 a need of 9", Checks.fault("errand 7 9 9;"), -1);
    due("4 an errand's own sign", Checks.fault("errand 3 1 3;"), -1);
    due("4 words run together", Checks.fault("loudloud;"), 0);
    due("4 a word cut short", Checks.fault("lou ;"), 0);
    due("4 a letter too many", Checks.fault("loudz;"), 0);
    due("4 a letter too many ahead", Checks.fault("aloud;"), 0);
    due("4 a byte behind z", Checks.fault("loud{"), 4);
    due("4 a byte ahead of a", Checks.fault("loud`"), 4);
    due("4 a byte behind 9", Checks.fault("loud 1:"), 6);
    due("4 a byte ahead of 0", Checks.fault("loud 1/"), 6);
    due("4 a capital", Checks.fault("Loud;"), 0);
    due("4 an underscored word", Checks.fault("loud_;"), 4);
    due("4 numbers run together", Checks.fault("loud 01;"), 5);
    due("4 a zero ahead", Checks.fault("loud 1 00;"), 7);
    due("4 above 99", Checks.fault("loud 1 100;"), 7);
    due("4 no above 99, but no sign", Checks.fault("loud 99;"), 5);
    due("4 a very long number", Checks.fault("loud " + "9".repeat(40) + ";"), 5);
    due("4 a number that comes round", Checks.fault("loud 4294967296;"), 5);
    due("4 a minus", Checks.fault("loud -1;"), 5);
    due("4 a tab", Checks.fault("loud\t1;"), 4);
    due("4 a line's end", Checks.fault("loud;\n"), 5);
    due("4 a byte of 0", Checks.fault("loud;\0"), 5);
    due("4 a byte of 160", Checks.fault("loud" + (char) 160 + ";"), 4);
    due("4 a byte of 255", Checks.fault("" + (char) 255), 0);
    due("4 a byte of 187, a ; but for its highest bit", Checks.fault("loud" + (char) 187), 4);
  }

  private static void faults() {
    due("4 a ; alone", Checks.fault(";"), 0);
    due("4 two ;", Checks.fault("loud;;"), 5);
    due("4 a number alone", Checks.fault(" 1;"), 1);
    due("4 ends in a word", Checks.fault("loud"), 4);
    due("4 ends behind blanks", Checks.fault("loud 1  "), 8);
    due("4 ends ahead of R", Checks.fault("knocker"), 7);
    due("4 R of 2", Checks.fault("knocker 2;"), 8);
    due("4 R of none", Checks.fault("knocker;"), 7);
    due("4 a sign of 8", Checks.fault("knocker 1 8;"), 10);
    due("4 a sign twice", Checks.fault("knocker 1 2 3 2;"), 14);
    due("4 R and a sign alike", Checks.fault("knocker 1 1;"), -1);
    due("4 a ninth sign", Checks.fault("loud 0 1 2 3 4 5 6 7 0;"), 21);
    due("4 a word for a sign", Checks.fault("loud 1 loud;"), 7);
    due("4 S of 8", Checks.fault("errand 8 1 9;"), 7);
    due("4 H of 0", Checks.fault("errand 0 0 9;"), 9);
    due("4 H of 10", Checks.fault("errand 0 10 9;"), 9);
    due("4 N of 8", Checks.fault("errand 0 1 8;"), 11);
    due("4 N of 10", Checks.fault("errand 0 1 10;"), 11);
    due("4 one more", Checks.fault("errand 0 1 9 1;"), 13);
    due("4 no N", Checks.fault("errand 0 1;"), 10);
    due("4 K of 0", Checks.fault("rule 0 1;"), 5);
    due("4 K of 9", Checks.fault("rule 9 1;"), 5);
    due("4 fewer than K", Checks.fault("rule 3 1 2;"), 10);
    due("4 no signs", Checks.fault("rule 1;"), 6);
    due("4 K and a sign alike", Checks.fault("rule 1 1;"), -1);
    due("4 fewer than K, and the end", Checks.fault("rule 3 1 2"), 10);
    due("4 fewer than K, and a bad sign", Checks.fault("rule 3 1 1;"), 9);
    due("4 the first of two faults", Checks.fault("loud 8; knocker 5;"), 5);
    due("4 a fault ahead of a byte that is none", Checks.fault("loud 8 #"), 5);
  }

  private static void knocker() {
    WhitePaw x = Checks.house(HOME);
    due("5 right", x.knocker(0, 0), 1);
    due("5 not right", x.knocker(1, 0), 0);
    due("5 signs", x.knocker(0, 1), 7);
    due("5 no signs", x.knocker(3, 1), 0);
    due("5 hours", x.knocker(1, 2), 0);
    x.runs(1, 1);
    due("5 hours that went by", x.knocker(1, 2), 2);
    due("5 let in", x.knocker(0, 3), 1);
    due("5 not enough for one rule", x.knocker(1, 3), 0);
    due("5 not enough for the other rule", x.knocker(2, 3), 0);
    due("5 no such knocker", x.knocker(4, 0), BAD);
    due("5 below", x.knocker(-1, 0), BAD);
    due("5 most", x.knocker(MAX, 0), BAD);
    due("5 no such what", x.knocker(0, 4), BAD);
    due("5 what below", x.knocker(0, -1), BAD);
  }

  private static void errand() {
    WhitePaw x = Checks.house(HOME);
    due("6 sign", x.errand(2, 0), 2);
    due("6 hours", x.errand(2, 1), 5);
    due("6 needs", x.errand(2, 2), 0);
    due("6 needs nothing", x.errand(1, 2), 9);
    due("6 no such errand", x.errand(3, 0), BAD);
    due("6 below", x.errand(-1, 0), BAD);
    due("6 no such what", x.errand(0, 3), BAD);
    due("6 what below", x.errand(0, -1), BAD);
  }

  private static void rule() {
    WhitePaw x = Checks.house(HOME);
    due("7 set", x.rule(0, 0), 7);
    due("7 number", x.rule(0, 1), 2);
    due("7 the last", x.rule(1, 0), 10);
    due("7 no such rule", x.rule(2, 0), BAD);
    due("7 below", x.rule(-1, 0), BAD);
    due("7 no such what", x.rule(0, 2), BAD);
    due("7 what below", x.rule(0, -1), BAD);
  }

  private static void runs() {
    WhitePaw x = Checks.house(HOME);
    due("8 lacks what it needs", x.runs(1, 2), STATE);
    due("8 has what it needs", x.runs(1, 0), 3);
    due("8 gets the sign", x.knocker(1, 1), 17);
    due("8 needs what was got", x.runs(1, 2), 8);
    due("8 has the sign", x.runs(1, 2), STATE);
    due("8 needs nothing", x.runs(3, 1), 2);
    due("8 no such knocker", x.runs(4, 0), BAD);
    due("8 no such errand", x.runs(0, 3), BAD);
    due("8 errand below", x.runs(0, -1), BAD);
    due("8 refused ones are not known", x.now(3), 3);
    x = Checks.house("knocker 0;errand 0 9 9;errand 1 8 9;errand 2 1 2;");
    for (int i = 1; i <= 10; i++) {
      due("8 nine hours", x.runs(0, 0), 9 * i);
      x.hoarse(0, 0);
    }
    due("8 to 98", x.runs(0, 1), 98);
    due("8 a hundred and more", x.runs(0, 0), STATE);
    due("8 an errand that needs its own sign", x.runs(0, 2), STATE);
    x = Checks.house("knocker 0;errand 0 9 9;errand 1 1 9;");
    for (int i = 1; i <= 11; i++) {
      due("8 nine hours", x.runs(0, 0), 9 * i);
      x.hoarse(0, 0);
    }
    due("8 behind 99", x.runs(0, 1), STATE);
    due("8 99 stand", x.knocker(0, 2), 99);
  }

  private static void knocks() {
    WhitePaw x = Checks.house(HOME);
    due("9 let in", x.knocks(0, 3), 1);
    due("9 loud ones of the rules", x.knocker(3, 1), 5);
    due("9 kept out", x.knocks(3, 1), 0);
    due("9 heard all the same", x.knocker(1, 1), 21);
    due("9 nobody listens", x.knocks(0, NONE), 1);
    due("9 is known all the same", x.now(3), 3);
    due("9 one and the same", x.knocks(0, 0), BAD);
    due("9 no such knocker", x.knocks(4, 0), BAD);
    due("9 nobody knocks", x.knocks(NONE, NONE), BAD);
    due("9 no such listener", x.knocks(0, 4), BAD);
    due("9 another number below", x.knocks(0, -1), BAD);
    due("9 refused ones are not known", x.now(3), 3);
    x = Checks.house("loud 0 7;knocker 1 0 7;knocker 0;");
    due("9 no rules", x.knocks(1, NONE), 1);
    due("9 nothing to hear", x.knocks(0, 1), 1);
    due("9 nothing heard", x.knocker(1, 1), 0);
    x = Checks.house("loud 0;knocker 1 0 1;knocker 0;rule 1 0 1;");
    due("9 before he hears", x.knocks(1, 0), 0);
    due("9 the one who knocks gets nothing", x.knocker(1, 1), 0);
    x.change(0, 2, 1);
    x.knocks(0, 1);
    due("9 of the changed rule", x.knocker(1, 1), 0);
  }

  private static void hoarse() {
    WhitePaw x = Checks.house(HOME);
    due("10 left", x.hoarse(0, 1), 2);
    due("10 gone", x.knocker(0, 1), 5);
    due("10 has it not", x.hoarse(0, 1), STATE);
    due("10 none left", x.hoarse(1, 4), 0);
    due("10 no such knocker", x.hoarse(4, 0), BAD);
    due("10 no such sign", x.hoarse(0, 8), BAD);
    due("10 a sign that comes round", x.hoarse(0, 32), BAD);
    due("10 sign below", x.hoarse(0, -1), BAD);
    due("10 refused ones are not known", x.now(3), 2);
    due("10 hours stay", x.knocker(0, 2), 0);
  }

  private static void change() {
    WhitePaw x = Checks.house(HOME);
    due("11 one rule", x.change(0, 1, 1), 1);
    due("11 more", x.change(0, 2, 1), 2);
    due("11 set", x.rule(0, 0), 2);
    due("11 the other stays", x.rule(1, 0), 10);
    due("11 all signs", x.change(1, 255, 8), 0);
    due("11 number", x.rule(1, 1), 8);
    due("11 no such rule", x.change(2, 1, 1), BAD);
    due("11 rule below", x.change(-1, 1, 1), BAD);
    due("11 an empty set", x.change(0, 0, 1), BAD);
    due("11 set above", x.change(0, 256, 1), BAD);
    due("11 set below", x.change(0, -1, 1), BAD);
    due("11 number of 0", x.change(0, 3, 0), BAD);
    due("11 number above", x.change(0, 3, 3), BAD);
    due("11 number below", x.change(0, 3, -1), BAD);
    due("11 refused ones are not known", x.now(3), 3);
  }

  private static void undo() {
    WhitePaw x = Checks.house(HOME);
    x.runs(1, 1);
    x.knocks(0, 3);
    x.hoarse(0, 0);
    x.change(1, 128, 1);
    due("12 a change", x.undo(), 3);
    due("12 the set", x.rule(1, 0), 10);
    due("12 hoarse", x.undo(), 2);
    due("12 the sign", x.knocker(0, 1), 7);
    due("12 a knock", x.undo(), 1);
    due("12 what was heard", x.knocker(3, 1), 0);
    due("12 an errand", x.undo(), 0);
    due("12 its sign", x.knocker(1, 1), 16);
    due("12 its hours", x.knocker(1, 2), 0);
    due("12 none", x.undo(), STATE);
    for (int i = 0; i < 12; i++) due("12 changes", x.change(0, i + 1, 1) >= 0 ? 1 : 0, 1);
    due("12 ten are known", x.now(3), 10);
    for (int i = 9; i >= 0; i--) {
      due("12 undone", x.undo(), i);
      due("12 the set ahead of it", x.rule(0, 0), i + 2);
    }
    due("12 older ones are lost", x.undo(), STATE);
    due("12 they stand", x.rule(0, 0), 2);
    x.knocks(0, NONE);
    due("12 a knock that nobody heard", x.undo(), 0);
  }

  private static void now() {
    WhitePaw x = Checks.house("loud 7;knocker 0 1;knocker 1 1;knocker 1;knocker 0;rule 1 1;");
    due("13 let in", x.now(0), 3);
    due("13 not right", x.now(1), 1);
    due("13 right, not let in", x.now(2), 4);
    due("13 none may be undone", x.now(3), 0);
    due("13 loud", x.now(4), 128);
    x.knocks(0, NONE);
    due("13 may be undone", x.now(3), 1);
    due("13 no such what", x.now(5), BAD);
    due("13 what below", x.now(-1), BAD);
    x = Checks.house("knocker 0;knocker 1;");
    due("13 no rules: everybody", x.now(0), 3);
  }

  private static void soonest() {
    WhitePaw x = Checks.house("knocker 0;knocker 0 5;knocker 1 0 1;"
        + "errand 0 2 9;errand 1 3 9;errand 0 2 9;errand 1 5 9;errand 2 9 5;rule 2 0 1 2;");
    due("14 hours", x.soonest(0, 0), 5);
    due("14 of several the least bits", x.soonest(0, 1), 3);
    due("14 none is needed", x.soonest(2, 0), 0);
    due("14 no set", x.soonest(2, 1), 0);
    due("14 no such knocker", x.soonest(3, 0), BAD);
    due("14 knocker below", x.soonest(-1, 0), BAD);
    due("14 no such what", x.soonest(0, 2), BAD);
    due("14 what below", x.soonest(0, -1), BAD);
    due("14 changes nothing", x.knocker(0, 1), 0);
    due("14 is not known", x.now(3), 0);
    // Two small bits (3) or one big bit (4), both of five hours: the number 3 is less.
    x = Checks.house("knocker 0;errand 0 2 9;errand 1 3 9;errand 2 5 9;rule 2 0 1 2;rule 1 1 2;");
    x.change(0, 7, 1);
    due("14 one by 3 hours", x.soonest(0, 1), 2);
    x = Checks.house("knocker 0;errand 0 2 9;errand 1 3 0;errand 1 5 9;rule 1 1;");
    due("14 five hours either way", x.soonest(0, 0), 5);
    due("14 the least bits as a number", x.soonest(0, 1), 3);
    chains();
  }

  private static void chains() {
    WhitePaw x = Checks.house("knocker 0;errand 0 9 1;errand 1 9 2;errand 2 9 3;errand 3 9 4;errand 4 9 5;errand 5 9 9;rule 1 0;");
    due("14 a chain of six", x.soonest(0, 0), 54);
    due("14 all of them", x.soonest(0, 1), 63);
    x = Checks.house("knocker 0;errand 0 9 1;errand 1 9 0;rule 1 0;");
    due("14 each needs the other", x.soonest(0, 0), NONE);
    due("14 no set of them", x.soonest(0, 1), NONE);
    x = Checks.house("knocker 0;errand 3 1 3;rule 1 3;");
    due("14 needs its own", x.soonest(0, 0), NONE);
    x = Checks.house("knocker 0;errand 0 9 9;errand 1 9 0;errand 2 9 1;rule 3 0 1 2;");
    for (int i = 0; i < 10; i++) {
      x.runs(0, 0);
      x.hoarse(0, 0);
    }
    due("14 99 hours do not matter", x.soonest(0, 0), 27);
    due("15 nor here", x.bar(0, 27), 0);
  }

  private static void bar() {
    WhitePaw x = Checks.house("knocker 0;knocker 1 0;knocker 0 1;"
        + "errand 1 1 9;errand 0 2 1;errand 0 4 9;errand 5 1 9;rule 1 0;");
    due("15 the first", x.bar(0, 3), 0);
    due("15 at four none is missed", x.bar(0, 4), NONE);
    due("15 so as it is", x.bar(0, 2), -5);
    due("15 let in already", x.bar(1, 0), NONE);
    due("15 the second, as he has the first's", x.bar(2, 2), 1);
    due("15 by 99", x.bar(0, 99), NONE);
    due("15 h above", x.bar(0, 100), BAD);
    due("15 h below", x.bar(0, -1), BAD);
    due("15 no such knocker", x.bar(3, 0), BAD);
    due("15 changes nothing", x.soonest(0, 0), 3);
    x = Checks.house("knocker 0;errand 0 1 9;rule 1 0;rule 1 1;");
    due("15 never so", x.bar(0, 99), -5);
    x.change(1, 1, 1);
    due("15 none at all without it", x.bar(0, 99), 0);
  }

  private static void ask() {
    WhitePaw x = Checks.house("knocker 1 0 1;knocker 1 1 2;knocker 1 0 2;knocker 0 0;knocker 0 1;");
    due("16 two of three", x.ask(0), 7);
    due("16 the number", x.ask(1), 2);
    x = Checks.house("knocker 1 3 6;knocker 0 2;");
    due("16 the least set", x.ask(0), 8);
    x = Checks.house("knocker 1 5 6;knocker 1 5 7;knocker 0 6 7;");
    due("16 fewest signs ahead of the least set", x.ask(0), 32);
    x = Checks.house("knocker 1 4 5;knocker 0 4;knocker 0 5;");
    due("16 two signs", x.ask(0), 48);
    due("16 both of them", x.ask(1), 2);
    x = Checks.house("knocker 1;knocker 0;");
    due("16 a right one without signs", x.ask(0), NONE);
    due("16 nor a number", x.ask(1), NONE);
    x = Checks.house("knocker 0 0 1;knocker 0 2;");
    due("16 none is right: the set", x.ask(0), 8);
    x = Checks.house("knocker 0 0 1 2 3 4 5 6 7;");
    due("16 all signs and not right", x.ask(0), NONE);
    x = Checks.house("knocker 1 0;knocker 1 0 1;rule 1 5;");
    due("16 the rules there are do not matter", x.ask(0), 1);
    x.hoarse(0, 0);
    due("16 signs as they are", x.ask(0), NONE);
    due("16 errands do not matter", Checks.house("knocker 1 0;knocker 0;errand 0 1 9;").ask(0), 1);
    due("16 no such what", x.ask(2), BAD);
    due("16 what below", x.ask(-1), BAD);
    WhitePaw nobody = new WhitePaw();
    due("16 nobody: the set", nobody.ask(0), 1);
    due("16 nobody: the number", nobody.ask(1), 1);
  }

  private static void safe() {
    WhitePaw x = Checks.house("knocker 1 0 1 2;knocker 0;errand 0 2 9;errand 1 3 9;errand 2 4 9;");
    due("17 at once", x.safe(0, 0), 1);
    due("17 by 1", x.safe(1, 0), 1);
    due("17 by 2", x.safe(2, 0), 2);
    due("17 by 3", x.safe(3, 0), 4);
    due("17 by 4", x.safe(4, 0), 3);
    due("17 by 4: both", x.safe(4, 1), 2);
    due("17 by 5", x.safe(5, 0), 5);
    due("17 by 6", x.safe(6, 0), 6);
    due("17 by 7", x.safe(7, 0), 7);
    due("17 by 7: all", x.safe(7, 1), 3);
    due("17 by 8", x.safe(8, 1), 3);
    due("17 by 9", x.safe(9, 0), NONE);
    due("17 nor a number", x.safe(99, 1), NONE);
    due("17 what right ones could get does not matter", Checks.house("knocker 1;errand 0 1 9;").safe(9, 0), NONE);
    due("17 h above", x.safe(100, 0), BAD);
    due("17 h below", x.safe(-1, 0), BAD);
    due("17 no such what", x.safe(0, 2), BAD);
    due("17 what below", x.safe(0, -1), BAD);
    due("17 changes nothing", x.knocker(1, 1), 0);
    x = Checks.house("knocker 1 0 1 2 3 4 5 6 7;knocker 0 6 7;knocker 0 0 1 2 3 4 5 6;knocker 0 0 1 2 3 4 5 7;"
        + "errand 0 1 9;errand 1 1 9;errand 2 1 9;errand 3 1 9;errand 4 1 9;errand 5 1 9;");
    due("17 all signs but one", x.safe(4, 0), 223);
    due("17 all signs but one: the number", x.safe(4, 1), 7);
    due("17 all signs", x.safe(5, 0), 255);
    due("17 all signs: the number", x.safe(5, 1), 8);
    due("17 once too much", x.safe(6, 0), NONE);
    x = Checks.house("knocker 1 0 1;knocker 0;errand 0 9 9;errand 1 9 9;");
    for (int i = 0; i < 10; i++) {
      x.runs(1, 0);
      x.hoarse(1, 0);
    }
    due("17 99 hours do not matter", x.safe(18, 0), NONE);
    due("17 hours that went by do not count", x.safe(9, 0), 3);
  }

  private static void odds() {
    WhitePaw x = Checks.house("knocker 1 0 1;knocker 0;knocker 1 0 1 2 3 4 5 6 7;rule 1 0 1;");
    due("18 upper", x.odds(0, 5, 0), 3);
    due("18 lower", x.odds(0, 5, 1), 4);
    due("18 one less four of a hundred", x.odds(0, 2, 0), 24);
    due("18 in least terms", x.odds(0, 2, 1), 25);
    due("18 none fails", x.odds(0, 0, 0), 1);
    due("18 for sure", x.odds(0, 0, 1), 1);
    due("18 all fail", x.odds(0, 10, 0), 0);
    due("18 never", x.odds(0, 10, 1), 1);
    due("18 without signs", x.odds(1, 3, 0), 0);
    due("18 without signs, lower", x.odds(1, 3, 1), 1);
    x.change(0, 255, 8);
    due("18 eight of eight", x.odds(2, 1, 0), 43046721);
    due("18 of a hundred million", x.odds(2, 1, 1), 100000000);
    due("18 p above", x.odds(0, 11, 0), BAD);
    due("18 p below", x.odds(0, -1, 0), BAD);
    due("18 no such knocker", x.odds(3, 1, 0), BAD);
    due("18 no such what", x.odds(0, 1, 2), BAD);
    due("18 what below", x.odds(0, 1, -1), BAD);
    x = Checks.house("knocker 1 0 1;rule 1 0;rule 1 1;");
    due("18 both rules", x.odds(0, 5, 1), 4);
    due("18 both rules, upper", x.odds(0, 5, 0), 1);
    due("18 no rules", Checks.house("knocker 0 1 2;").odds(0, 10, 0), 1);
  }

  private static void shown() {
    WhitePaw x = Checks.house(HOME);
    due("19 no such sign", x.shown(8, 0), BAD);
    due("19 sign below", x.shown(-1, 0), BAD);
    due("19 no such has", x.shown(0, 2), BAD);
    due("19 has below", x.shown(0, -1), BAD);
    for (int i = 1; i <= 6; i++) due("19 how much", x.shown(7, 0), i);
    due("19 no more", x.shown(0, 1), FULL);
    due("19 BAD ahead of FULL", x.shown(8, 1), BAD);
    due("19 six", x.count(3), 6);
    due("19 is not known", x.now(3), 0);
  }

  private static void forget() {
    WhitePaw x = Checks.house(HOME);
    x.shown(0, 1);
    x.shown(1, 1);
    due("20 had", x.forget(), 2);
    due("20 none", x.count(3), 0);
    due("20 again", x.forget(), 0);
    due("20 everybody again", x.who(), 15);
  }

  private static void who() {
    WhitePaw x = Checks.house(HOME);
    due("21 everybody", x.who(), 15);
    x.shown(1, 1);
    due("21 had it", x.who(), 5);
    x.shown(3, 0);
    due("21 had it not", x.who(), 1);
    x.hoarse(0, 1);
    due("21 signs as they are", x.who(), 0);
    x.undo();
    due("21 and again", x.who(), 1);
    x.shown(1, 0);
    due("21 both", x.who(), 0);
  }

  private static void tell() {
    WhitePaw x = Checks.house("knocker 1 6 7;knocker 0 6 7;knocker 0 7;knocker 1 7;");
    due("22 the sign", x.tell(0), 6);
    due("22 how many", x.tell(1), 2);
    x.shown(6, 1);
    due("22 none tells: the least", x.tell(0), 0);
    due("22 all are left", x.tell(1), 2);
    x.shown(6, 0);
    due("22 none can have been it", x.tell(0), NONE);
    due("22 nor how many", x.tell(1), NONE);
    x.forget();
    x.hoarse(0, 7);
    x.hoarse(1, 7);
    due("22 of several the least", x.tell(0), 6);
    due("22 no such what", x.tell(2), BAD);
    due("22 what below", x.tell(-1), BAD);
    x = Checks.house("knocker 1 2;knocker 1 2;knocker 1 2;knocker 1 3;");
    x.shown(2, 1);
    x.shown(2, 1);
    x.shown(2, 1);
    x.shown(2, 1);
    x.shown(2, 1);
    x.shown(2, 1);
    due("22 though no more can be shown", x.tell(1), 3);
    due("22 nobody", new WhitePaw().tell(0), NONE);
  }

  private static void rate() {
    WhitePaw x = Checks.house("loud 0 5;knocker 0;knocker 1 0 1 5;errand 2 9 9;rule 2 0 1;rule 1 7;rule 1 5;");
    x.runs(1, 0);
    due("23 knocker", x.rate(0, 1), 4);
    due("23 mother", x.rate(1, 1), 6);
    due("23 wolf", x.rate(2, 1), -5);
    due("23 aunt", x.rate(3, 1), 12);
    due("23 miller", x.rate(4, 1), -4);
    due("23 fox", x.rate(5, 1), 6);
    due("23 kind above", x.rate(6, 1), WhitePaw.NO);
    due("23 kind below", x.rate(-1, 1), WhitePaw.NO);
    due("23 no such knocker", x.rate(0, 2), WhitePaw.NO);
    due("23 knocker below", x.rate(0, -1), WhitePaw.NO);
    due("23 one without signs", x.rate(3, 0), 0);
  }

  private static void images() {
    WhitePaw x = Checks.house(HOME);
    due("24 let in", x.keep(0), 1);
    x.runs(1, 1);
    x.change(0, 2, 1);
    due("24 the other", x.keep(1), 3);
    due("24 image above", x.keep(2), BAD);
    due("24 image below", x.keep(-1), BAD);
    due("24 undo goes on", x.now(3), 2);
    x.shown(0, 1);
    Checks.type(x, "loud");
    x.rate(0, 0);
    due("25 the first", x.back(0), 1);
    due("25 signs", x.knocker(1, 1), 16);
    due("25 hours", x.knocker(1, 2), 0);
    due("25 rules", x.rule(0, 0), 7);
    due("25 nothing can be undone", x.undo(), STATE);
    due("25 what was shown stays", x.count(3), 1);
    due("25 the text stays", x.count(4), 4);
    due("25 the trace goes on", x.trace(), 1);
    due("25 the other", x.back(1), 3);
    due("25 its signs", x.knocker(1, 1), 18);
    due("25 its hours", x.knocker(1, 2), 2);
    due("25 its rules", x.rule(0, 0), 2);
    due("25 is still kept", x.back(0), 1);
    due("25 image above", x.back(2), BAD);
    due("25 image below", x.back(-1), BAD);
    x.hoarse(0, 0);
    due("24 over it", x.keep(0), 1);
    due("25 what was kept last", x.back(0), 1);
    due("25 its signs", x.knocker(0, 1), 6);
    x = Checks.house(HOME);
    x.keep(1);
    x.knocks(0, NONE);
    due("25 none was kept", x.back(0), STATE);
    due("25 refused: undo goes on", x.now(3), 1);
  }

  private static void count() {
    WhitePaw x = Checks.house(HOME);
    due("26 knockers", x.count(0), 4);
    due("26 errands", x.count(1), 3);
    due("26 rules", x.count(2), 2);
    x.shown(1, 0);
    due("26 shown", x.count(3), 1);
    x.type(0, 3);
    due("26 bytes", x.count(4), 3);
    due("26 no such what", x.count(5), BAD);
    due("26 what below", x.count(-1), BAD);
  }

  private static void trace() {
    long[] added = {1, 11, 101, 1011, 10101, 100001};
    WhitePaw x = Checks.house(HOME);
    long trace = 0;
    for (int kind = 0; kind < added.length; kind++) {
      x.rate(kind, 0);
      trace += added[kind];
      due("27 behind kind " + kind, x.trace(), trace);
    }
    x.rate(6, 0);
    x.rate(0, 9);
    due("27 refused ones add nothing", x.trace(), trace);
    x.knocks(0, NONE);
    x.undo();
    x.keep(0);
    x.back(0);
    x.house();
    due("27 goes on", x.trace(), trace);
  }

  private static void refusedChangesNothing() {
    WhitePaw x = Checks.house(HOME);
    int[] odd = {MIN, -10, -9, -1, 9, 100, 256, MAX};
    for (int a : odd) {
      for (int b : odd) {
        if (a >= 0 || b >= 0) continue;
        x.runs(a, b);
        x.knocks(a, b);
        x.hoarse(a, b);
        x.change(a, b, a);
        x.shown(a, b);
        x.keep(a);
      }
    }
    due("refused: no undo", x.now(3), 0);
    due("refused: nothing shown", x.count(3), 0);
    due("refused: no image", x.back(0), STATE);
    due("refused: signs", x.knocker(0, 1), 7);
  }
}
