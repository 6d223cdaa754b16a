import java.math.BigInteger;
import java.util.ArrayDeque;
import java.util.ArrayList;
import java.util.Arrays;
import java.util.Deque;
import java.util.List;
import java.util.Set;
import java.util.TreeSet;
import java.util.regex.Matcher;
import java.util.regex.Pattern;

/** The document said over again with the whole library and no thought of cost, for ModelTests to compare with. */
final class Model {
  private static final int BAD = -1, STATE = -2, FULL = -3, NONE = -9, NO = -1000000;

  record Errand(int sign, int hours, int need) { }

  record Rule(Set<Integer> set, int many) {
    boolean lets(Set<Integer> signs) {
      Set<Integer> both = new TreeSet<>(set);
      both.retainAll(signs);
      return both.size() >= many;
    }
  }

  record Way(int bits, int hours, Set<Integer> signs) { }

  /** NOW: what UNDONE and IMAGES bring back. */
  record Evening(List<Set<Integer>> signs, List<Integer> hours, List<Rule> rules) {
    Evening copy() {
      List<Set<Integer>> sets = new ArrayList<>();
      for (Set<Integer> set : signs) sets.add(new TreeSet<>(set));
      return new Evening(sets, new ArrayList<>(hours), new ArrayList<>(rules));
    }
  }

  private String text = "";
  private Set<Integer> loud = new TreeSet<>();
  private List<Integer> right = new ArrayList<>();
  private List<Errand> errands = new ArrayList<>();
  private Evening now = new Evening(new ArrayList<>(), new ArrayList<>(), new ArrayList<>());
  private final Deque<Evening> past = new ArrayDeque<>();
  private final Evening[] images = new Evening[2];
  private final List<int[]> shown = new ArrayList<>();
  private long trace;

  // ---- the house

  int type(long v, int n) {
    if (n < 1 || n > 8) return BAD;
    if (text.length() + n > 300) return FULL;
    for (int i = n - 1; i >= 0; i--) text += (char) (v >>> 8 * i & 255);
    return text.length();
  }

  int clear() {
    int had = text.length();
    text = "";
    return had;
  }

  private static final class Fault extends RuntimeException {
    private static final long serialVersionUID = 1;
    final int place;

    Fault(int place) {
      this.place = place;
    }
  }

  /** Looks for TOKENS by a pattern, and takes each only where the grammar has a place for it. */
  private static final class Parser {
    private static final Pattern TOKEN = Pattern.compile(" *([a-z]+|[0-9]+|;)");
    final String text;
    final Set<Integer> loud = new TreeSet<>();
    final List<Integer> right = new ArrayList<>();
    final List<Set<Integer>> signs = new ArrayList<>();
    final List<Errand> errands = new ArrayList<>();
    final List<Rule> rules = new ArrayList<>();
    int louds;
    int items;
    int place;

    Parser(String text) {
      this.text = text;
    }

    int start() {
      int start = place;
      while (start < text.length() && text.charAt(start) == ' ') start++;
      return start;
    }

    String peek() {
      Matcher m = TOKEN.matcher(text).region(place, text.length());
      return m.lookingAt() ? m.group(1) : "";
    }

    void take() {
      place = start() + peek().length();
    }

    Fault fault() {
      return new Fault(start());
    }

    int number(String allowed) {
      String token = peek();
      if (token.length() != 1 || allowed.indexOf(token) < 0) throw fault();
      take();
      return Integer.parseInt(token);
    }

    Set<Integer> signs(int least) {
      Set<Integer> set = new TreeSet<>();
      while (!peek().equals(";")) {
        String others = "";
        for (int sign = 0; sign < 8; sign++) {
          if (!set.contains(sign)) others += sign;
        }
        set.add(number(others));
      }
      if (set.size() < least) throw fault();
      take();
      return set;
    }

    void item() {
      String word = peek();
      boolean full = word.equals("loud") && louds == 1 || word.equals("knocker") && right.size() == 5
          || word.equals("errand") && errands.size() == 6 || word.equals("rule") && rules.size() == 4;
      if (full || !List.of("loud", "knocker", "errand", "rule").contains(word)) throw fault();
      take();
      switch (word) {
        case "loud" -> {
          louds++;
          loud.addAll(signs(0));
        }
        case "knocker" -> {
          right.add(number("01"));
          signs.add(signs(0));
        }
        case "errand" -> {
          errands.add(new Errand(number("01234567"), number("123456789"), number("012345679")));
          if (!peek().equals(";")) throw fault();
          take();
        }
        default -> {
          int many = number("12345678");
          rules.add(new Rule(signs(many), many));
        }
      }
      items++;
    }
  }

  int house() {
    Parser parser = new Parser(text);
    try {
      while (parser.start() < text.length()) parser.item();
    } catch (Fault fault) {
      return -10 - fault.place;
    }
    text = "";
    loud = parser.loud;
    right = parser.right;
    errands = parser.errands;
    now = new Evening(parser.signs, new ArrayList<>(), parser.rules);
    for (int k = 0; k < right.size(); k++) now.hours().add(0);
    past.clear();
    Arrays.fill(images, null);
    shown.clear();
    return parser.items;
  }

  int knocker(int k, int what) {
    if (no(k, right) || out(what, 0, 3)) return BAD;
    return new int[] {right.get(k), bits(signs(k)), now.hours().get(k), lets(signs(k)) ? 1 : 0}[what];
  }

  int errand(int e, int what) {
    if (no(e, errands) || out(what, 0, 2)) return BAD;
    Errand errand = errands.get(e);
    return new int[] {errand.sign(), errand.hours(), errand.need()}[what];
  }

  int rule(int i, int what) {
    if (no(i, now.rules()) || out(what, 0, 1)) return BAD;
    Rule rule = now.rules().get(i);
    return new int[] {bits(rule.set()), rule.many()}[what];
  }

  // ---- an evening

  int runs(int k, int e) {
    if (no(k, right) || no(e, errands)) return BAD;
    Errand errand = errands.get(e);
    if (signs(k).contains(errand.sign())) return STATE;
    if (errand.need() != 9 && !signs(k).contains(errand.need())) return STATE;
    int hours = now.hours().get(k) + errand.hours();
    if (hours > 99) return STATE;
    remember();
    signs(k).add(errand.sign());
    now.hours().set(k, hours);
    return hours;
  }

  int knocks(int k, int listens) {
    if (no(k, right) || listens != NONE && no(listens, right) || k == listens) return BAD;
    remember();
    for (Rule rule : now.rules()) {
      for (int sign : rule.set()) {
        if (listens != NONE && signs(k).contains(sign) && loud.contains(sign)) signs(listens).add(sign);
      }
    }
    return lets(signs(k)) ? 1 : 0;
  }

  int hoarse(int k, int sign) {
    if (no(k, right) || out(sign, 0, 7)) return BAD;
    if (!signs(k).contains(sign)) return STATE;
    remember();
    signs(k).remove(sign);
    return signs(k).size();
  }

  int change(int i, int set, int many) {
    if (no(i, now.rules()) || out(set, 1, 255) || out(many, 1, set(set).size())) return BAD;
    remember();
    now.rules().set(i, new Rule(set(set), many));
    return letIn().size();
  }

  int undo() {
    if (past.isEmpty()) return STATE;
    now = past.removeLast();
    return past.size();
  }

  int now(int what) {
    Set<Integer> in = letIn();
    Set<Integer> rightOnes = new TreeSet<>();
    for (int k = 0; k < right.size(); k++) {
      if (right.get(k) == 1) rightOnes.add(k);
    }
    return switch (what) {
      case 0 -> bits(in);
      case 1 -> bits(in) - bits(both(in, rightOnes));
      case 2 -> bits(rightOnes) - bits(both(in, rightOnes));
      case 3 -> past.size();
      case 4 -> bits(loud);
      default -> BAD;
    };
  }

  // ---- what can be got

  /** Each set of ERRANDS that can be run, found by running them in every order. */
  private void walk(Set<Integer> signs, int bits, int hours, int barred, List<Way> found) {
    found.add(new Way(bits, hours, signs));
    for (int e = 0; e < errands.size(); e++) {
      Errand errand = errands.get(e);
      boolean done = (bits >> e & 1) == 1 || e == barred;
      if (done || signs.contains(errand.sign()) || errand.need() != 9 && !signs.contains(errand.need())) continue;
      Set<Integer> more = new TreeSet<>(signs);
      more.add(errand.sign());
      walk(more, bits + (1 << e), hours + errand.hours(), barred, found);
    }
  }

  private List<Way> ways(int k, int barred) {
    List<Way> found = new ArrayList<>();
    walk(signs(k), 0, 0, barred, found);
    return found;
  }

  private Way soonestWay(int k, int barred) {
    return ways(k, barred).stream().filter(way -> lets(way.signs()))
        .min((a, b) -> a.hours() != b.hours() ? a.hours() - b.hours() : a.bits() - b.bits()).orElse(null);
  }

  int soonest(int k, int what) {
    if (no(k, right) || out(what, 0, 1)) return BAD;
    Way way = soonestWay(k, -1);
    if (way == null) return NONE;
    return what == 0 ? way.hours() : way.bits();
  }

  int bar(int k, int h) {
    if (no(k, right) || out(h, 0, 99)) return BAD;
    if (soonestWay(k, -1) == null || soonestWay(k, -1).hours() > h) return -5;
    for (int e = 0; e < errands.size(); e++) {
      if (soonestWay(k, e) == null || soonestWay(k, e).hours() > h) return e;
    }
    return NONE;
  }

  // ---- rules

  int ask(int what) {
    if (out(what, 0, 1)) return BAD;
    List<Set<Integer>> others = new ArrayList<>();
    for (int k = 0; k < right.size(); k++) {
      if (right.get(k) == 0) others.add(signs(k));
    }
    return lone(others, what);
  }

  int safe(int h, int what) {
    if (out(h, 0, 99) || out(what, 0, 1)) return BAD;
    List<Set<Integer>> others = new ArrayList<>();
    for (int k = 0; k < right.size(); k++) {
      if (right.get(k) == 1) continue;
      for (Way way : ways(k, -1)) {
        if (way.hours() <= h && !others.contains(way.signs())) others.add(way.signs());
      }
    }
    return lone(others, what);
  }

  private int lone(List<Set<Integer>> others, int what) {
    for (int size = 1; size <= 8; size++) {
      for (int set = 1; set <= 255; set++) {
        if (set(set).size() != size) continue;
        for (int many = 1; many <= size; many++) {
          Rule rule = new Rule(set(set), many);
          boolean good = true;
          for (int k = 0; good && k < right.size(); k++) good = right.get(k) == 0 || rule.lets(signs(k));
          for (int i = 0; good && i < others.size(); i++) good = !rule.lets(others.get(i));
          if (good) return what == 0 ? set : many;
        }
      }
    }
    return NONE;
  }

  long odds(int k, int p, int what) {
    if (no(k, right) || out(p, 0, 10) || out(what, 0, 1)) return BAD;
    BigInteger upper = chance(new ArrayList<>(signs(k)), new TreeSet<>(), p);
    BigInteger lower = BigInteger.TEN.pow(signs(k).size());
    return (what == 0 ? upper : lower).divide(upper.gcd(lower)).longValueExact();
  }

  /** One SIGN after another fails or stays. */
  private BigInteger chance(List<Integer> open, Set<Integer> stay, int p) {
    if (open.isEmpty()) return lets(stay) ? BigInteger.ONE : BigInteger.ZERO;
    List<Integer> rest = open.subList(1, open.size());
    Set<Integer> more = new TreeSet<>(stay);
    more.add(open.get(0));
    BigInteger fails = BigInteger.valueOf(p).multiply(chance(rest, stay, p));
    return fails.add(BigInteger.valueOf(10 - p).multiply(chance(rest, more, p)));
  }

  // ---- who it was

  int shown(int sign, int has) {
    if (out(sign, 0, 7) || out(has, 0, 1)) return BAD;
    if (shown.size() == 6) return FULL;
    shown.add(new int[] {sign, has});
    return shown.size();
  }

  int forget() {
    int had = shown.size();
    shown.clear();
    return had;
  }

  int who() {
    Set<Integer> left = new TreeSet<>();
    for (int k = 0; k < right.size(); k++) {
      boolean fits = true;
      for (int[] one : shown) fits &= signs(k).contains(one[0]) == (one[1] == 1);
      if (fits) left.add(k);
    }
    return bits(left);
  }

  int tell(int what) {
    if (out(what, 0, 1)) return BAD;
    if (who() == 0) return NONE;
    int best = -1;
    int fewest = 99;
    for (int sign = 0; sign < 8; sign++) {
      int worst = 0;
      for (int has = 0; has < 2; has++) {
        shown.add(new int[] {sign, has});
        worst = Math.max(worst, set(who()).size());
        shown.remove(shown.size() - 1);
      }
      if (worst < fewest) {
        fewest = worst;
        best = sign;
      }
    }
    return what == 0 ? best : fewest;
  }

  // ---- kinds, images

  int rate(int kind, int k) {
    if (out(kind, 0, 5) || no(k, right)) return NO;
    int signs = signs(k).size();
    int met = 0;
    for (Rule rule : now.rules()) met += rule.lets(signs(k)) ? 1 : 0;
    int hours = now.hours().get(k);
    trace += new int[] {1, 11, 101, 1011, 10101, 100001}[kind];
    return new int[] {signs, signs + met, signs - hours, 2 * (signs + met), signs - hours + k,
        signs + both(signs(k), loud).size()}[kind];
  }

  int keep(int image) {
    if (out(image, 0, 1)) return BAD;
    images[image] = now.copy();
    return letIn().size();
  }

  int back(int image) {
    if (out(image, 0, 1)) return BAD;
    if (images[image] == null) return STATE;
    now = images[image].copy();
    past.clear();
    return letIn().size();
  }

  int count(int what) {
    return switch (what) {
      case 0 -> right.size();
      case 1 -> errands.size();
      case 2 -> now.rules().size();
      case 3 -> shown.size();
      case 4 -> text.length();
      default -> BAD;
    };
  }

  long trace() {
    return trace;
  }

  // ---- help

  private static boolean out(int value, int least, int most) {
    return value < least || value > most;
  }

  private static boolean no(int i, List<?> list) {
    return i < 0 || i >= list.size();
  }

  private Set<Integer> signs(int k) {
    return now.signs().get(k);
  }

  private boolean lets(Set<Integer> signs) {
    return now.rules().stream().allMatch(rule -> rule.lets(signs));
  }

  private Set<Integer> letIn() {
    Set<Integer> in = new TreeSet<>();
    for (int k = 0; k < right.size(); k++) {
      if (lets(signs(k))) in.add(k);
    }
    return in;
  }

  private void remember() {
    past.addLast(now.copy());
    if (past.size() > 10) past.removeFirst();
  }

  private static Set<Integer> both(Set<Integer> a, Set<Integer> b) {
    Set<Integer> both = new TreeSet<>(a);
    both.retainAll(b);
    return both;
  }

  private static int bits(Set<Integer> set) {
    int bits = 0;
    for (int one : set) bits += 1 << one;
    return bits;
  }

  private static Set<Integer> set(int bits) {
    Set<Integer> set = new TreeSet<>();
    for (int i = 0; i < 31; i++) {
      if ((bits >> i & 1) == 1) set.add(i);
    }
    return set;
  }
}
