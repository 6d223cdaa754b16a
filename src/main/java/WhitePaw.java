/** White paw under the door: the rules of a door, who is let in by them, and what can be got by errands. */
public final class WhitePaw {
  public static final int BAD = -1, STATE = -2, FULL = -3, NONE = -9;
  public static final int NO = -1000000;

  private static final int ALREADY = -5;
  private static final int FAULT = -10;
  private static final int MOST_BYTES = 300;
  private static final int MOST_KNOCKERS = 5;
  private static final int MOST_ERRANDS = 6;
  private static final int MOST_RULES = 4;
  private static final int MOST_SHOWN = 6;
  private static final int MOST_UNDONE = 10;
  private static final int MOST_HOURS = 99;
  private static final int MOST_TAKEN = 9;
  private static final int IMAGES = 2;
  private static final int SIGNS = 8;
  private static final int ALL_SIGNS = 255;
  private static final int NEEDS_NOTHING = 9;
  private static final int TENTHS = 10;

  private final Text text = new Text();
  private final House told = new House();
  private final Reader reader = new Reader();
  private final Moment now = new Moment();
  private final Moments past = new Moments(MOST_UNDONE);
  private final Moments images = new Moments(IMAGES);
  private final Ways ways = new Ways();
  private final Crowd crowd = new Crowd();
  private final int[] shownSigns = new int[MOST_SHOWN];
  private final int[] shownHas = new int[MOST_SHOWN];
  private int pastPlace;
  private int undoable;
  private int keptImages;
  private int shownMany;
  private long trace;

  public WhitePaw() {
  }

  // ---- the house

  public int type(long v, int n) {
    if (n < 1 || n > 8) return BAD;
    if (text.length + n > MOST_BYTES) return FULL;
    for (int i = n - 1; i >= 0; i--) text.add((int) (v >> (8 * i)));
    return text.length;
  }

  public int clear() {
    int had = text.length;
    text.length = 0;
    return had;
  }

  public int house() {
    int items = reader.readHouse(text);
    if (items < 0) return items;
    told.copy(reader.draft);
    now.copy(told.first);
    text.length = 0;
    undoable = 0;
    keptImages = 0;
    shownMany = 0;
    return items;
  }

  public int knocker(int k, int what) {
    if (!isKnocker(k)) return BAD;
    switch (what) {
      case 0: return at(told.right, k);
      case 1: return signsOf(k);
      case 2: return at(now.hours, k);
      case 3: return isLetIn(signsOf(k)) ? 1 : 0;
      default: return BAD;
    }
  }

  public int errand(int e, int what) {
    if (!isErrand(e)) return BAD;
    switch (what) {
      case 0: return at(told.gets, e);
      case 1: return at(told.takes, e);
      case 2: return at(told.needs, e);
      default: return BAD;
    }
  }

  public int rule(int i, int what) {
    if (!isRule(i) || !isBit(what)) return BAD;
    return what == 0 ? at(now.sets, i) : at(now.manys, i);
  }

  // ---- an evening

  public int runs(int k, int e) {
    if (!isKnocker(k) || !isErrand(e)) return BAD;
    int hours = at(now.hours, k) + at(told.takes, e);
    if (hours > MOST_HOURS || !told.isOpen(e, signsOf(k))) return STATE;
    remember();
    put(now.signs, k, signsOf(k) | (1 << at(told.gets, e)));
    put(now.hours, k, hours);
    return hours;
  }

  public int knocks(int k, int listens) {
    boolean nobody = listens == NONE;
    if (!isKnocker(k) || k == listens || (!nobody && !isKnocker(listens))) return BAD;
    remember();
    int heard = signsOf(k) & told.loud & signsOfRules();
    if (!nobody) put(now.signs, listens, signsOf(listens) | heard);
    return isLetIn(signsOf(k)) ? 1 : 0;
  }

  public int hoarse(int k, int sign) {
    if (!isKnocker(k) || !isSign(sign)) return BAD;
    if (!has(signsOf(k), sign)) return STATE;
    remember();
    put(now.signs, k, signsOf(k) & ~(1 << sign));
    return Integer.bitCount(signsOf(k));
  }

  public int change(int i, int set, int many) {
    if (!isRule(i) || set < 1 || set > ALL_SIGNS) return BAD;
    if (many < 1 || many > Integer.bitCount(set)) return BAD;
    remember();
    put(now.sets, i, set);
    put(now.manys, i, many);
    return Integer.bitCount(letIn());
  }

  public int undo() {
    if (undoable == 0) return STATE;
    undoable--;
    pastPlace = pastPlace == 0 ? MOST_UNDONE - 1 : pastPlace - 1;
    past.fetch(pastPlace, now);
    return undoable;
  }

  public int now(int what) {
    switch (what) {
      case 0: return letIn();
      case 1: return letIn() & ~rightOnes();
      case 2: return rightOnes() & ~letIn();
      case 3: return undoable;
      case 4: return told.loud;
      default: return BAD;
    }
  }

  // ---- what can be got

  public int soonest(int k, int what) {
    if (!isKnocker(k) || !isBit(what)) return BAD;
    int set = soonestSet(k, 0);
    if (set < 0) return NONE;
    return what == 0 ? at(ways.hours, set) : set;
  }

  public int bar(int k, int h) {
    if (!isKnocker(k) || !isHours(h)) return BAD;
    if (!isSoon(k, 0, h)) return ALREADY;
    for (int e = 0; e < told.errands; e++) {
      if (!isSoon(k, 1 << e, h)) return e;
    }
    return NONE;
  }

  // ---- rules

  public int ask(int what) {
    if (!isBit(what)) return BAD;
    // No ERRAND takes less than one HOUR, so in none of them there is only what they have.
    return loneRule(0, what);
  }

  public int safe(int h, int what) {
    if (!isHours(h) || !isBit(what)) return BAD;
    return loneRule(h, what);
  }

  public long odds(int k, int p, int what) {
    if (!isKnocker(k) || p < 0 || p > TENTHS || !isBit(what)) return BAD;
    int signs = signsOf(k);
    int many = Integer.bitCount(signs);
    long upper = 0;
    for (int left = 0; left <= ALL_SIGNS; left++) {
      if ((left & ~signs) != 0 || !isLetIn(left)) continue;
      int stay = Integer.bitCount(left);
      upper += power(TENTHS - p, stay) * power(p, many - stay);
    }
    long lower = power(TENTHS, many);
    long common = Math.max(1, commonDivisor(upper, lower));
    return what == 0 ? upper / common : lower / common;
  }

  // ---- who it was

  public int shown(int sign, int has) {
    if (!isSign(sign) || !isBit(has)) return BAD;
    if (shownMany >= MOST_SHOWN) return FULL;
    put(shownSigns, shownMany, sign);
    put(shownHas, shownMany, has);
    shownMany++;
    return shownMany;
  }

  public int forget() {
    int had = shownMany;
    shownMany = 0;
    return had;
  }

  public int who() {
    int found = 0;
    for (int k = 0; k < told.knockers; k++) {
      if (canHaveBeen(k)) found |= 1 << k;
    }
    return found;
  }

  public int tell(int what) {
    if (!isBit(what)) return BAD;
    int left = who();
    if (left == 0) return NONE;
    int best = 0;
    for (int sign = 1; sign < SIGNS; sign++) {
      if (worstLeft(left, sign) < worstLeft(left, best)) best = sign;
    }
    return what == 0 ? best : worstLeft(left, best);
  }

  // ---- kinds, images

  public int rate(int kind, int k) {
    if (!isKnocker(k)) return NO;
    switch (kind) {
      case 0: return asKnocker(k);
      case 1: return asMother(k);
      case 2: return asWolf(k);
      case 3: return asAunt(k);
      case 4: return asMiller(k);
      case 5: return asFox(k);
      default: return NO;
    }
  }

  public int keep(int image) {
    if (!isImage(image)) return BAD;
    images.store(image, now);
    keptImages |= 1 << image;
    return Integer.bitCount(letIn());
  }

  public int back(int image) {
    if (!isImage(image)) return BAD;
    if (!has(keptImages, image)) return STATE;
    images.fetch(image, now);
    undoable = 0;
    return Integer.bitCount(letIn());
  }

  public int count(int what) {
    switch (what) {
      case 0: return told.knockers;
      case 1: return told.errands;
      case 2: return told.rules;
      case 3: return shownMany;
      case 4: return text.length;
      default: return BAD;
    }
  }

  public long trace() {
    return trace;
  }

  // ---- what is a number of what

  private boolean isKnocker(int k) {
    return k >= 0 && k < told.knockers;
  }

  private boolean isErrand(int e) {
    return e >= 0 && e < told.errands;
  }

  private boolean isRule(int i) {
    return i >= 0 && i < told.rules;
  }

  private static boolean isSign(int sign) {
    return sign >= 0 && sign < SIGNS;
  }

  private static boolean isHours(int h) {
    return h >= 0 && h <= MOST_HOURS;
  }

  private static boolean isBit(int what) {
    return what == 0 || what == 1;
  }

  private static boolean isImage(int image) {
    return image >= 0 && image < IMAGES;
  }

  // ---- rows, bits, numbers

  /** Tests the index itself, so that no caller can make the machine throw; 0 beyond the row. */
  private static int at(int[] row, int i) {
    return i >= 0 && i < row.length ? row[i] : 0;
  }

  /** Tests the index itself, as at() does; nothing is put beyond the row. */
  private static void put(int[] row, int i, int value) {
    if (i >= 0 && i < row.length) row[i] = value;
  }

  private static void copyRow(int[] from, int[] into) {
    System.arraycopy(from, 0, into, 0, Math.min(from.length, into.length));
  }

  private static boolean has(int set, int bit) {
    return (set >> bit & 1) == 1;
  }

  private static long power(int base, int times) {
    long product = 1;
    for (int i = 0; i < times; i++) product *= base;
    return product;
  }

  private static long commonDivisor(long a, long b) {
    // Two numbers of 63 bits need fewer than 100 steps.
    for (int i = 0; i < 100 && b != 0; i++) {
      long rest = a % b;
      a = b;
      b = rest;
    }
    return a;
  }

  // ---- the door

  private int signsOf(int k) {
    return at(now.signs, k);
  }

  private boolean hasEnough(int signs, int i) {
    return Integer.bitCount(signs & at(now.sets, i)) >= at(now.manys, i);
  }

  private int rulesMet(int signs) {
    int met = 0;
    for (int i = 0; i < told.rules; i++) {
      if (hasEnough(signs, i)) met++;
    }
    return met;
  }

  private boolean isLetIn(int signs) {
    return rulesMet(signs) == told.rules;
  }

  private int letIn() {
    int found = 0;
    for (int k = 0; k < told.knockers; k++) {
      if (isLetIn(signsOf(k))) found |= 1 << k;
    }
    return found;
  }

  private int rightOnes() {
    int found = 0;
    for (int k = 0; k < told.knockers; k++) {
      if (at(told.right, k) == 1) found |= 1 << k;
    }
    return found;
  }

  private int signsOfRules() {
    int signs = 0;
    for (int i = 0; i < told.rules; i++) signs |= at(now.sets, i);
    return signs;
  }

  /** Keeps NOW for undo(), over the oldest if no place is free. */
  private void remember() {
    past.store(pastPlace, now);
    pastPlace = pastPlace == MOST_UNDONE - 1 ? 0 : pastPlace + 1;
    undoable = Math.min(undoable + 1, MOST_UNDONE);
  }

  // ---- ERRANDS ahead

  /** SOONEST without the barred ERRANDS (bits): the set, or -1; its HOURS are in the ways then. */
  private int soonestSet(int k, int barred) {
    ways.explore(told, signsOf(k), barred);
    int best = -1;
    for (int set = 0; set < ways.many; set++) {
      boolean sooner = best < 0 || at(ways.hours, set) < at(ways.hours, best);
      if (ways.isOpen(set) && sooner && isLetIn(at(ways.signs, set))) best = set;
    }
    return best;
  }

  private boolean isSoon(int k, int barred, int h) {
    int set = soonestSet(k, barred);
    return set >= 0 && at(ways.hours, set) <= h;
  }

  // ---- a RULE alone

  private int loneRule(int h, int what) {
    gatherCrowd(h);
    int best = 0;
    int number = 0;
    for (int set = 1; set <= ALL_SIGNS; set++) {
      boolean smaller = best == 0 || Integer.bitCount(set) < Integer.bitCount(best);
      int least = smaller ? leastNumber(set) : 0;
      if (least > 0) {
        best = set;
        number = least;
      }
    }
    if (best == 0) return NONE;
    return what == 0 ? best : number;
  }

  /** The crowd: what SIGNS those who aren't RIGHT can have by h HOURS. */
  private void gatherCrowd(int h) {
    crowd.many = 0;
    for (int k = 0; k < told.knockers; k++) {
      if (at(told.right, k) == 1) continue;
      ways.explore(told, signsOf(k), 0);
      // From the most ERRANDS down: the crowd leaves out whoever has less than one who is in it.
      for (int set = ways.many - 1; set >= 0; set--) {
        if (ways.isOpen(set) && at(ways.hours, set) <= h) crowd.add(at(ways.signs, set));
      }
    }
  }

  /** The least number of the set that nobody of the crowd has, but all RIGHT ones have; 0: there is none. */
  private int leastNumber(int set) {
    int least = crowd.mostOf(set) + 1;
    if (least > Integer.bitCount(set)) return 0;
    for (int k = 0; k < told.knockers; k++) {
      if (at(told.right, k) == 1 && Integer.bitCount(signsOf(k) & set) < least) return 0;
    }
    return least;
  }

  // ---- what was SHOWN

  private boolean canHaveBeen(int k) {
    for (int i = 0; i < shownMany; i++) {
      boolean due = at(shownHas, i) == 1;
      if (has(signsOf(k), at(shownSigns, i)) != due) return false;
    }
    return true;
  }

  /** How many of those left would be left at worst, were the SIGN SHOWN. */
  private int worstLeft(int left, int sign) {
    int with = 0;
    for (int k = 0; k < told.knockers; k++) {
      if (has(left, k) && has(signsOf(k), sign)) with++;
    }
    return Math.max(with, Integer.bitCount(left) - with);
  }

  // ---- KINDS, each over what the one above does

  private int asKnocker(int k) {
    trace += 1;
    return Integer.bitCount(signsOf(k));
  }

  private int asMother(int k) {
    trace += 10;
    return asKnocker(k) + rulesMet(signsOf(k));
  }

  private int asWolf(int k) {
    trace += 100;
    return asKnocker(k) - at(now.hours, k);
  }

  private int asAunt(int k) {
    trace += 1000;
    return 2 * asMother(k);
  }

  private int asMiller(int k) {
    trace += 10000;
    return asWolf(k) + k;
  }

  private int asFox(int k) {
    trace += 100000;
    return asKnocker(k) + Integer.bitCount(signsOf(k) & told.loud);
  }

  /** THE TEXT. */
  private static final class Text {
    private final byte[] bytes = new byte[MOST_BYTES];
    private int length;

    void add(int b) {
      if (length < 0 || length >= bytes.length) return;
      bytes[length] = (byte) b;
      length++;
    }

    /** A byte (0 to 255); -1 where the text has ended. */
    int byteAt(int place) {
      return place >= 0 && place < length && place < bytes.length ? bytes[place] & 255 : -1;
    }
  }

  /** What an evening changes: the KNOCKERS' SIGNS and HOURS, the RULES. */
  private static final class Moment {
    private final int[] signs = new int[MOST_KNOCKERS];
    private final int[] hours = new int[MOST_KNOCKERS];
    private final int[] sets = new int[MOST_RULES];
    private final int[] manys = new int[MOST_RULES];

    void copy(Moment other) {
      copyRow(other.signs, signs);
      copyRow(other.hours, hours);
      copyRow(other.sets, sets);
      copyRow(other.manys, manys);
    }
  }

  /** Moments that are kept by numbers: made once, written over again. */
  private static final class Moments {
    private final Moment[] rows;

    Moments(int many) {
      rows = new Moment[Math.max(0, many)];
      for (int i = 0; i < rows.length; i++) rows[i] = new Moment();
    }

    void store(int i, Moment from) {
      Moment row = row(i);
      if (row != null) row.copy(from);
    }

    void fetch(int i, Moment into) {
      Moment row = row(i);
      if (row != null) into.copy(row);
    }

    private Moment row(int i) {
      return i >= 0 && i < rows.length ? rows[i] : null;
    }
  }

  /** What a text has told. */
  private static final class House {
    private final Moment first = new Moment();
    private final int[] right = new int[MOST_KNOCKERS];
    private final int[] gets = new int[MOST_ERRANDS];
    private final int[] takes = new int[MOST_ERRANDS];
    private final int[] needs = new int[MOST_ERRANDS];
    private int loud;
    private int knockers;
    private int errands;
    private int rules;

    void empty() {
      loud = 0;
      knockers = 0;
      errands = 0;
      rules = 0;
    }

    void copy(House other) {
      first.copy(other.first);
      copyRow(other.right, right);
      copyRow(other.gets, gets);
      copyRow(other.takes, takes);
      copyRow(other.needs, needs);
      loud = other.loud;
      knockers = other.knockers;
      errands = other.errands;
      rules = other.rules;
    }

    /** Whether an ERRAND can be run by one with these SIGNS. */
    boolean isOpen(int e, int signs) {
      int need = at(needs, e);
      return !has(signs, at(gets, e)) && (need == NEEDS_NOTHING || has(signs, need));
    }
  }

  /** What can be got from some SIGNS, by each set of ERRANDS (bits). */
  private static final class Ways {
    private static final int CANNOT_BE = -1;

    private final int[] signs = new int[1 << MOST_ERRANDS];
    private final int[] hours = new int[1 << MOST_ERRANDS];
    private int many;

    boolean isOpen(int set) {
      return at(hours, set) != CANNOT_BE;
    }

    void explore(House house, int start, int barred) {
      many = 1 << house.errands;
      put(signs, 0, start);
      put(hours, 0, 0);
      for (int set = 1; set < many; set++) {
        int last = (set & barred) == 0 ? lastOf(house, set) : -1;
        if (last < 0) put(hours, set, CANNOT_BE);
        else runLast(house, set, last);
      }
    }

    private void runLast(House house, int set, int last) {
      int ahead = set & ~(1 << last);
      put(signs, set, at(signs, ahead) | (1 << at(house.gets, last)));
      put(hours, set, at(hours, ahead) + at(house.takes, last));
    }

    /** An ERRAND that can be run behind all others of the set; -1: there is none. */
    private int lastOf(House house, int set) {
      for (int e = 0; e < house.errands; e++) {
        int ahead = set & ~(1 << e);
        if (ahead != set && isOpen(ahead) && house.isOpen(e, at(signs, ahead))) return e;
      }
      return -1;
    }
  }

  /** SIGNS by which nobody may be let in. */
  private static final class Crowd {
    private final int[] signs = new int[ALL_SIGNS + 1];
    private int many;

    /** Who has no more than another one is left out: no RULE keeps out the other one alone. */
    void add(int more) {
      for (int i = 0; i < many; i++) {
        if ((more & ~at(signs, i)) == 0) return;
      }
      put(signs, many, more);
      many++;
    }

    int mostOf(int set) {
      int most = 0;
      for (int i = 0; i < many; i++) {
        most = Math.max(most, Integer.bitCount(at(signs, i) & set));
      }
      return most;
    }
  }

  /** The TOKENS of a text, up to its end or the first that can be none. */
  private static final class Tokens {
    private static final int END = 0, WRONG = 1, STOP = 2, NUMBER = 3, LOUD = 4, KNOCKER = 5, ERRAND = 6, RULE = 7;

    private final int[] kinds = new int[MOST_BYTES + 1];
    private final int[] starts = new int[MOST_BYTES + 1];
    private final int[] values = new int[MOST_BYTES + 1];

    void split(Text text) {
      int place = 0;
      for (int i = 0; i <= MOST_BYTES; i++) {
        int start = passBlanks(text, place);
        int end = endOf(text, start);
        int kind = kindOf(text, start, end);
        put(starts, i, start);
        put(kinds, i, kind);
        put(values, i, kind == NUMBER ? numberOf(text, start, end) : -1);
        if (kind == END || kind == WRONG) return;
        place = end;
      }
    }

    private static int passBlanks(Text text, int place) {
      int next = place;
      while (next < MOST_BYTES && text.byteAt(next) == ' ') next++;
      return next;
    }

    private static int endOf(Text text, int start) {
      int next = start + 1;
      if (isLetter(text.byteAt(start))) {
        while (next < MOST_BYTES && isLetter(text.byteAt(next))) next++;
      } else if (isDigit(text.byteAt(start))) {
        while (next < MOST_BYTES && isDigit(text.byteAt(next))) next++;
      }
      return next;
    }

    private static int kindOf(Text text, int start, int end) {
      int b = text.byteAt(start);
      if (b < 0) return END;
      if (b == ';') return STOP;
      if (isDigit(b)) return numberOf(text, start, end) < 0 ? WRONG : NUMBER;
      if (isWord(text, start, end, "loud")) return LOUD;
      if (isWord(text, start, end, "knocker")) return KNOCKER;
      if (isWord(text, start, end, "errand")) return ERRAND;
      return isWord(text, start, end, "rule") ? RULE : WRONG;
    }

    /** What a row of digits tells; -1 if it is above 99 or has a 0 ahead of others. */
    private static int numberOf(Text text, int start, int end) {
      int first = text.byteAt(start) - '0';
      if (end - start == 1) return first;
      return end - start == 2 && first > 0 ? 10 * first + text.byteAt(start + 1) - '0' : -1;
    }

    private static boolean isWord(Text text, int start, int end, String word) {
      if (end - start != word.length()) return false;
      for (int i = 0; i < word.length(); i++) {
        if (text.byteAt(start + i) != word.charAt(i)) return false;
      }
      return true;
    }

    private static boolean isLetter(int b) {
      return b >= 'a' && b <= 'z';
    }

    private static boolean isDigit(int b) {
      return b >= '0' && b <= '9';
    }
  }

  /** Reads a text into a draft of a house, so that a fault leaves the house as it is. */
  private static final class Reader {
    private final Tokens tokens = new Tokens();
    private final House draft = new House();
    private boolean loudTold;
    private int place;

    /** How many ITEMS; -10 less FAULT. */
    int readHouse(Text text) {
      tokens.split(text);
      draft.empty();
      loudTold = false;
      place = 0;
      for (int items = 0; items <= MOST_BYTES; items++) {
        if (kind() == Tokens.END) return items;
        if (!readItem()) break;
      }
      return FAULT - at(tokens.starts, place);
    }

    private int kind() {
      return at(tokens.kinds, place);
    }

    // An ITEM's reader answers whether all of it can stand; if not, the TOKEN at the place is the first that can't.

    private boolean readItem() {
      switch (kind()) {
        case Tokens.LOUD: return readLoud();
        case Tokens.KNOCKER: return readKnocker();
        case Tokens.ERRAND: return readErrand();
        case Tokens.RULE: return readRule();
        default: return false;
      }
    }

    private boolean readLoud() {
      if (loudTold) return false;
      place++;
      loudTold = true;
      draft.loud = readSigns();
      return readStop();
    }

    private boolean readKnocker() {
      if (draft.knockers >= MOST_KNOCKERS) return false;
      place++;
      int right = readNumber(0, 1);
      if (right < 0) return false;
      put(draft.right, draft.knockers, right);
      put(draft.first.signs, draft.knockers, readSigns());
      draft.knockers++;
      return readStop();
    }

    private boolean readErrand() {
      if (draft.errands >= MOST_ERRANDS) return false;
      place++;
      int gets = readNumber(0, SIGNS - 1);
      if (gets < 0) return false;
      int takes = readNumber(1, MOST_TAKEN);
      if (takes < 0) return false;
      int needs = readNeed();
      if (needs < 0) return false;
      put(draft.gets, draft.errands, gets);
      put(draft.takes, draft.errands, takes);
      put(draft.needs, draft.errands, needs);
      draft.errands++;
      return readStop();
    }

    private boolean readRule() {
      if (draft.rules >= MOST_RULES) return false;
      place++;
      int many = readNumber(1, SIGNS);
      if (many < 0) return false;
      int set = readSigns();
      if (Integer.bitCount(set) < many) return false;
      put(draft.first.sets, draft.rules, set);
      put(draft.first.manys, draft.rules, many);
      draft.rules++;
      return readStop();
    }

    private int readNeed() {
      int need = readNumber(0, SIGNS - 1);
      return need < 0 ? readNumber(NEEDS_NOTHING, NEEDS_NOTHING) : need;
    }

    /** SIGNS (bits), as long as they can stand. */
    private int readSigns() {
      int set = 0;
      for (int i = 0; i < SIGNS; i++) {
        int sign = at(tokens.values, place);
        if (!isSign(sign) || has(set, sign)) break;
        set |= 1 << sign;
        place++;
      }
      return set;
    }

    /** The NUMBER at the place; -1 if there is none from least to most. */
    private int readNumber(int least, int most) {
      int value = at(tokens.values, place);
      if (value < least || value > most) return -1;
      place++;
      return value;
    }

    private boolean readStop() {
      if (kind() != Tokens.STOP) return false;
      place++;
      return true;
    }
  }
}
