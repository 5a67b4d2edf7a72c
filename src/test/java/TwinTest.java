import java.util.ArrayList;
import java.util.Arrays;
import java.util.HashMap;
import java.util.HashSet;
import java.util.List;
import java.util.Map;
import java.util.NoSuchElementException;
import java.util.Random;
import java.util.Set;
import java.util.TreeMap;
import java.util.regex.Matcher;
import java.util.regex.Pattern;

/** Random runs of calls on the class and on a slow twin that tries all there is: answers must be alike. */
public final class TwinTest {
  private static final int RUNS = 1500;
  private static int wrong = 0;

  // ---- the twin ----

  static final class Fault extends RuntimeException {
    private static final long serialVersionUID = 1;
    final int code;
    Fault(int kind, int place) { code = kind + 16 * place; }
  }

  interface Expr { int of(Map<String, Integer> facts); }

  record Token(String text, int place) { }

  record Wig(String name, int size, int office, int lean) { }

  record Head(String name, int kind, int size, int age, int lean) { }

  record Line(String deed, int wig, int head) { }

  record Said(int head, int hard, boolean isFor) { }

  record State(int season, List<Integer> on, List<Integer> wear) { }

  record Mark(State state, List<Line> years, List<Said> said, Map<Integer, Integer> told) { }

  static final Set<String> RESERVED = new HashSet<>(Arrays.asList(("wig size office lean head aged heats slack swells judges "
      + "put off mend season plain hot bald boy not and or").split(" ")));

  static final class Parse {
    final List<Token> tokens = new ArrayList<>();
    int i = 0;

    Parse(String text) {
      Matcher m = Pattern.compile("[a-z]+|[0-9]+|[^ \\n]").matcher(text);
      while (m.find()) tokens.add(new Token(m.group(), m.start()));
      tokens.add(new Token("", text.length()));
    }

    String peek() { return tokens.get(i).text(); }
    boolean end() { return peek().isEmpty(); }
    boolean number() { return peek().matches("[0-9]{1,4}"); }
    boolean name() { return peek().matches("[a-z]{1,8}") && !RESERVED.contains(peek()); }
    Fault fault(int kind) { return new Fault(kind, tokens.get(i).place()); }
    void want(String text) { if (!peek().equals(text)) throw fault(1); i++; }

    int number(int least, int most) {
      if (!number()) throw fault(1);
      int n = Integer.parseInt(peek());
      if (n < least || n > most) throw fault(4);
      i++;
      return n;
    }

    Expr e(List<String> facts, int depth) {
      Expr left = test(facts, depth);
      while (peek().equals("and") || peek().equals("or")) {
        boolean and = peek().equals("and");
        i++;
        Expr a = left, b = test(facts, depth);
        left = f -> { boolean x = a.of(f) != 0, y = b.of(f) != 0; return (and ? x & y : x | y) ? 1 : 0; };
      }
      return left;
    }

    Expr test(List<String> facts, int depth) {
      Expr a = sum(facts, depth);
      if (!peek().equals("<") && !peek().equals("=")) return a;
      boolean less = peek().equals("<");
      i++;
      Expr b = sum(facts, depth);
      return f -> (less ? a.of(f) < b.of(f) : a.of(f) == b.of(f)) ? 1 : 0;
    }

    Expr sum(List<String> facts, int depth) {
      Expr left = product(facts, depth);
      while (peek().equals("+") || peek().equals("-")) {
        int sign = peek().equals("+") ? 1 : -1;
        i++;
        Expr a = left, b = product(facts, depth);
        left = f -> a.of(f) + sign * b.of(f);
      }
      return left;
    }

    Expr product(List<String> facts, int depth) {
      Expr left = part(facts, depth);
      while (peek().equals("*")) {
        i++;
        Expr a = left, b = part(facts, depth);
        left = f -> a.of(f) * b.of(f);
      }
      return left;
    }

    Expr part(List<String> facts, int depth) {
      String text = peek();
      if (!number() && !facts.contains(text) && !text.equals("not") && !text.equals("(")) throw fault(1);
      if (depth == 5) throw fault(5);
      boolean isNumber = number();
      i++;
      if (isNumber) { int n = Integer.parseInt(text); return f -> n; }
      if (text.equals("not")) { Expr a = part(facts, depth + 1); return f -> a.of(f) == 0 ? 1 : 0; }
      if (text.equals("(")) { Expr a = e(facts, depth + 1); want(")"); return a; }
      return f -> f.get(text);
    }
  }

  static final class Twin {
    String tape = "";
    List<Wig> wigs = new ArrayList<>();
    List<Head> heads = new ArrayList<>();
    List<Integer> heats = new ArrayList<>();
    int slack = 1;
    Expr swells, judges;
    int season;
    int[] on = new int[0], wear = new int[0];
    List<Line> years = new ArrayList<>();
    List<Said> said = new ArrayList<>();
    Map<Integer, Integer> told = new TreeMap<>();
    List<State> past = new ArrayList<>();
    Map<Integer, Mark> marks = new HashMap<>();

    int feed(String text) {
      for (char c : text.toCharArray()) if ((c == 10 || c >= 32 && c <= 126) && tape.length() < 1000) tape += c;
      return tape.length();
    }

    int realm() {
      Parse p = new Parse(tape);
      tape = "";
      List<Wig> ws = new ArrayList<>();
      List<Head> hs = new ArrayList<>();
      List<Integer> ht = new ArrayList<>();
      Set<String> names = new HashSet<>(), once = new HashSet<>();
      int sl = 1;
      Expr sw = null, ju = null;
      try {
        while (!p.end()) {
          String word = p.peek();
          if (!List.of("wig", "head", "heats", "slack", "swells", "judges").contains(word)) throw p.fault(1);
          if (word.equals("wig") && ws.size() == 6 || word.equals("head") && hs.size() == 6) throw p.fault(5);
          boolean isNamed = word.equals("wig") || word.equals("head");
          if (!isNamed && !once.add(word)) throw p.fault(3);
          p.i++;
          String name = p.peek();
          if (isNamed) {
            if (!p.name()) throw p.fault(1);
            if (!names.add(name)) throw p.fault(3);
            p.i++;
          }
          switch (word) {
            case "wig": {
              p.want("size"); int size = p.number(40, 79);
              p.want("office"); int office = p.number(0, 99);
              p.want("lean"); int lean = p.number(0, 9);
              ws.add(new Wig(name, size, office, lean));
              break;
            }
            case "head": {
              int kind = List.of("plain", "hot", "bald", "boy").indexOf(p.peek());
              if (kind < 0) throw p.fault(1);
              p.i++;
              p.want("size"); int size = p.number(40, 79);
              p.want("aged"); int age = p.number(0, 99);
              p.want("lean"); int lean = p.number(0, 9);
              hs.add(new Head(name, kind, size, age, lean));
              break;
            }
            case "heats":
              do {
                int place = p.i;
                int n = p.number(0, 9);
                if (ht.size() == 12) { p.i = place; throw p.fault(5); }
                ht.add(n);
              } while (p.number());
              break;
            case "slack": sl = p.number(0, 9); break;
            case "swells": sw = p.e(List.of("heat", "years", "sort"), 0); break;
            default: ju = p.e(List.of("wigged", "headed", "hard"), 0);
          }
          p.want(";");
        }
      } catch (Fault f) {
        return f.code;
      }
      wigs = ws; heads = hs; heats = ht; slack = sl; swells = sw; judges = ju;
      season = 0;
      on = new int[wigs.size()];
      Arrays.fill(on, -1);
      wear = new int[wigs.size()];
      years = new ArrayList<>(); said = new ArrayList<>(); told = new TreeMap<>();
      past.clear(); marks.clear();
      return 0;
    }

    int indexOfWig(String name) { for (int i = 0; i < wigs.size(); i++) if (wigs.get(i).name().equals(name)) return i; return -1; }
    int indexOfHead(String name) { for (int i = 0; i < heads.size(); i++) if (heads.get(i).name().equals(name)) return i; return -1; }

    int years() {
      Parse p = new Parse(tape);
      tape = "";
      List<Line> lines = new ArrayList<>();
      try {
        while (!p.end()) {
          String deed = p.peek();
          if (!List.of("put", "off", "mend", "season").contains(deed)) throw p.fault(1);
          if (lines.size() == 40) throw p.fault(5);
          p.i++;
          int w = -1, h = -1;
          if (!deed.equals("season")) {
            if (!p.name()) throw p.fault(1);
            w = indexOfWig(p.peek());
            if (w < 0) throw p.fault(2);
            p.i++;
          }
          if (deed.equals("put")) {
            if (!p.name()) throw p.fault(1);
            h = indexOfHead(p.peek());
            if (h < 0) throw p.fault(2);
            p.i++;
          }
          p.want(";");
          lines.add(new Line(deed, w, h));
        }
      } catch (Fault f) {
        return f.code;
      }
      years = lines;
      return 0;
    }

    boolean isWig(int w) { return w >= 0 && w < wigs.size(); }
    boolean isHead(int h) { return h >= 0 && h < heads.size(); }
    int heat(int s) { return heats.isEmpty() ? 0 : heats.get(s % heats.size()); }

    int girth(int h, int s) {
      Head head = heads.get(h);
      int e = head.kind() == 1 ? 2 * heat(s) : heat(s);
      if (swells != null) e = swells.of(Map.of("heat", heat(s), "years", head.age() + s / 4, "sort", head.kind()));
      if (e < -9) e = -9;
      if (e > 9) e = 9;
      int g = head.size() + e;
      if (head.kind() == 3) g += s / 4;
      if (head.kind() == 2) g--;
      return g;
    }

    boolean fit(int w, int h, int s) { int d = wigs.get(w).size() - girth(h, s); return d >= 0 && d <= slack; }
    boolean isFor(int lean, int h, int hard) {
      int headed = heads.get(h).lean();
      if (judges == null) return lean * hard < headed * 9;
      return judges.of(Map.of("wigged", lean, "headed", headed, "hard", hard)) != 0;
    }

    List<Integer> list(int[] a) { List<Integer> l = new ArrayList<>(); for (int x : a) l.add(x); return l; }
    State state() { return new State(season, list(on), list(wear)); }
    void back(State s) {
      season = s.season();
      for (int i = 0; i < on.length; i++) { on[i] = s.on().get(i); wear[i] = s.wear().get(i); }
    }
    int wigOn(int h) { for (int w = 0; w < on.length; w++) if (on[w] == h) return w; return -1; }
    void keep() { past.add(state()); if (past.size() > 16) past.remove(0); }

    boolean canPut(int w, int h) { return isWig(w) && isHead(h) && on[w] < 0 && wear[w] < 9 && wigOn(h) < 0 && fit(w, h, season); }
    int pass() {
      for (int w = 0; w < on.length; w++) if (on[w] < 0 && wear[w] < 9) wear[w]++;
      season++;
      int n = 0;
      for (int w = 0; w < on.length; w++) if (on[w] >= 0 && !fit(w, on[w], season)) { on[w] = -1; n++; }
      return n;
    }
    int officeOn() { int n = 0; for (int w = 0; w < on.length; w++) if (on[w] >= 0) n += wigs.get(w).office(); return n; }

    int wig(int w, int what) {
      if (!isWig(w) || what < 0 || what > 4) return -2;
      Wig x = wigs.get(w);
      return List.of(x.size(), x.office(), x.lean(), on[w], wear[w]).get(what);
    }
    int head(int h, int what) {
      if (!isHead(h) || what < 0 || what > 5) return -2;
      Head x = heads.get(h);
      return List.of(x.kind(), x.size(), x.age(), x.lean(), girth(h, season), wigOn(h)).get(what);
    }
    int fits(int w, int h, int n) { return isWig(w) && isHead(h) && n >= 0 && n < 100 && fit(w, h, season + n) ? 1 : 0; }
    int put(int w, int h) { if (!canPut(w, h)) return 0; keep(); on[w] = h; return 1; }
    int off(int w) { if (!isWig(w) || on[w] < 0) return -1; keep(); int h = on[w]; on[w] = -1; return h; }
    int mend(int w) { if (!isWig(w) || on[w] >= 0) return -1; keep(); int x = wear[w]; wear[w] = 0; return x; }
    int season() { keep(); told.clear(); return pass(); }
    int undo() { if (past.isEmpty()) return 0; back(past.remove(past.size() - 1)); told.clear(); return 1; }

    int judged(int what) {
      if (what < 0 || what > 2) return -2;
      State was = state();
      season = 0;
      Arrays.fill(on, -1);
      Arrays.fill(wear, 0);
      int cant = -1, fell = -1;
      for (int i = 0; i < years.size(); i++) {
        Line l = years.get(i);
        boolean can = true;
        switch (l.deed()) {
          case "put": can = canPut(l.wig(), l.head()); if (can) on[l.wig()] = l.head(); break;
          case "off": can = on[l.wig()] >= 0; on[l.wig()] = -1; break;
          case "mend": can = on[l.wig()] < 0; if (can) wear[l.wig()] = 0; break;
          default: if (pass() > 0 && fell < 0) fell = i;
        }
        if (!can && cant < 0) cant = i;
      }
      int office = officeOn();
      back(was);
      return what == 0 ? cant : what == 1 ? fell : office;
    }

    int verdict(int hard) {
      if (hard < 0 || hard > 9) return -1;
      int bits = 0;
      for (int w = 0; w < on.length; w++) if (on[w] >= 0 && isFor(wigs.get(w).lean(), on[w], hard)) bits += 1 << w;
      return bits;
    }
    int votes(int hard) {
      int bits = verdict(hard), n = 0;
      if (bits < 0) return -1;
      for (int w = 0; w < on.length; w++) if ((bits & 1 << w) != 0) n += wigs.get(w).office();
      return n;
    }

    int mostOffice;
    int[] mostRow;
    void fillFrom(int w, int[] row, int office, int seasons) {
      if (w == row.length) {
        if (office > mostOffice) { mostOffice = office; mostRow = row.clone(); }
        return;
      }
      if (wear[w] < 9) {
        for (int h = 0; h < heads.size(); h++) {
          boolean can = true;
          for (int i = 0; i < w; i++) can &= row[i] != h;
          for (int s = 0; s < seasons; s++) can &= fit(w, h, season + s);
          if (can) { row[w] = h; fillFrom(w + 1, row, office + wigs.get(w).office(), seasons); }
        }
      }
      row[w] = -1;
      fillFrom(w + 1, row, office, seasons);
    }
    int fill(int seasons, int w) {
      if (seasons < 1 || seasons > 8 || w != -1 && !isWig(w)) return -2;
      mostOffice = -1;
      fillFrom(0, new int[wigs.size()], 0, seasons);
      return w == -1 ? mostOffice : mostRow[w];
    }

    int say(int h, int hard, boolean isFor) {
      if (!isHead(h) || hard < 0 || hard > 9 || said.size() == 8) return 0;
      said.add(new Said(h, hard, isFor));
      return 1;
    }
    List<Integer> possible() {
      List<Integer> all = new ArrayList<>();
      for (int lean = 0; lean < 10; lean++) {
        int l = lean;
        if (said.stream().allMatch(s -> isFor(l, s.head(), s.hard()) == s.isFor())) all.add(lean);
      }
      return all;
    }
    int leans(int what) {
      List<Integer> all = possible();
      if (what == 0) return all.size();
      if (what < 0 || what > 2 || all.isEmpty()) return -1;
      return all.get(what == 1 ? 0 : all.size() - 1);
    }
    int next(int h) {
      if (!isHead(h)) return -1;
      List<Integer> all = possible();
      int found = -1, least = all.size();
      for (int hard = 9; hard >= 0; hard--) {
        int c = hard;
        int yes = (int) all.stream().filter(l -> isFor(l, h, c)).count();
        int g = Math.max(yes, all.size() - yes);
        if (g < all.size() && g <= least) { least = g; found = hard; }
      }
      return found;
    }

    int baths(int h, int w, int n) {
      if (!isHead(h) || !isWig(w) || n < 1 || n > 40) return -1;
      int all = 0;
      for (int s = season; s < season + n; s++) {
        int least = 1000;
        for (int change = -60; change <= 60; change++) {
          int d = wigs.get(w).size() - (girth(h, s) + change);
          if (d >= 0 && d <= slack) least = Math.min(least, Math.abs(change));
        }
        all += least;
      }
      return all;
    }
    int keeps(int w) {
      if (!isWig(w) || on[w] < 0) return -1;
      State was = state();
      int n = -1;
      for (int i = 1; i <= 40 && n < 0; i++) { pass(); if (on[w] < 0) n = i; }
      back(was);
      return n;
    }

    void mothsFrom(int i, int[] row) {
      if (i == row.length) {
        int office = 0;
        for (int w = 0; w < on.length; w++) if (wear[w] < 9) office += wigs.get(w).office();
        if (office > mostOffice) { mostOffice = office; mostRow = row.clone(); }
        return;
      }
      State was = state();
      for (int w = 0; w <= on.length; w++) {
        if (w < on.length && on[w] >= 0) continue;
        if (w < on.length) wear[w] = 0;
        row[i] = w < on.length ? w : -1;
        pass();
        mothsFrom(i + 1, row);
        back(was);
      }
    }
    int moths(int n, int what) {
      if (n < 1 || n > 4 || what < 0 || what > n) return -2;
      mostOffice = -1;
      mothsFrom(0, new int[n]);
      return what == 0 ? mostOffice : mostRow[what - 1];
    }

    int tell(int w, int tilt) { if (!isWig(w) || tilt < 0 || tilt > 9) return 0; told.put(w, tilt); return 1; }
    List<Map<Integer, Integer>> ways() {
      List<Map<Integer, Integer>> all = new ArrayList<>();
      all.add(new HashMap<>());
      for (int w : told.keySet()) {
        List<Map<Integer, Integer>> more = new ArrayList<>();
        for (Map<Integer, Integer> way : all)
          for (int h = 0; h < heads.size(); h++)
            if (!way.containsValue(h) && fit(w, h, season) && wigs.get(w).size() - girth(h, season) == told.get(w)) {
              Map<Integer, Integer> m = new HashMap<>(way);
              m.put(w, h);
              more.add(m);
            }
        all = more;
      }
      return all;
    }
    int under(int w) {
      if (w != -1 && !isWig(w)) return -2;
      List<Map<Integer, Integer>> all = ways();
      if (w == -1) return all.size();
      if (all.isEmpty() || !told.containsKey(w)) return -1;
      Set<Integer> who = new HashSet<>();
      for (Map<Integer, Integer> way : all) who.add(way.get(w));
      return who.size() == 1 ? who.iterator().next() : -1;
    }
    int ask() {
      List<Map<Integer, Integer>> all = ways();
      int found = -1, least = Integer.MAX_VALUE;
      for (int w = 0; w < wigs.size(); w++) {
        if (told.containsKey(w)) continue;
        Map<Integer, Integer> byTilt = new HashMap<>();
        int n = 0;
        for (Map<Integer, Integer> way : all)
          for (int h = 0; h < heads.size(); h++)
            if (!way.containsValue(h) && fit(w, h, season)) { n++; byTilt.merge(wigs.get(w).size() - girth(h, season), 1, Integer::sum); }
        int g = byTilt.values().stream().mapToInt(x -> x).max().orElse(0);
        if (g < n && g < least) { least = g; found = w; }
      }
      return found;
    }

    int power(int w, int quota) {
      if (!isWig(w) || on[w] < 0 || quota < 0 || quota > 999) return -1;
      List<Integer> sums = new ArrayList<>(List.of(0));
      for (int o = 0; o < on.length; o++)
        if (o != w && on[o] >= 0) for (int x : new ArrayList<>(sums)) sums.add(x + wigs.get(o).office());
      int own = wigs.get(w).office();
      return (int) sums.stream().filter(x -> x < quota && x + own >= quota).count();
    }

    /** By HEADS the best WIG of all pairings in which no two would rather have one another. */
    int match(int head) {
      if (!isHead(head)) return -2;
      int[] best = {-1};
      matchFrom(0, new int[heads.size()], head, best);
      return best[0];
    }
    boolean can(int w, int h) { return wear[w] < 9 && fit(w, h, season); }
    boolean rather(int h, int a, int b) {
      if (b < 0) return true;
      int x = wigs.get(a).office(), y = wigs.get(b).office();
      return x > y || x == y && a < b;
    }
    boolean wigRather(int a, int b) {
      if (b < 0) return true;
      int x = girth(a, season), y = girth(b, season);
      return x > y || x == y && a < b;
    }
    void matchFrom(int h, int[] row, int wanted, int[] best) {
      if (h < row.length) {
        row[h] = -1;
        matchFrom(h + 1, row, wanted, best);
        for (int w = 0; w < wigs.size(); w++) {
          boolean free = can(w, h);
          for (int i = 0; i < h; i++) free &= row[i] != w;
          if (free) { row[h] = w; matchFrom(h + 1, row, wanted, best); }
        }
        return;
      }
      for (int a = 0; a < row.length; a++)
        for (int w = 0; w < wigs.size(); w++) {
          int who = -1;
          for (int i = 0; i < row.length; i++) if (row[i] == w) who = i;
          if (who != a && can(w, a) && rather(a, w, row[a]) && wigRather(a, who)) return;
        }
      if (row[wanted] >= 0 && rather(wanted, row[wanted], best[0])) best[0] = row[wanted];
    }

    int rests(int worth, int cost, int what) {
      if (worth < 0 || worth > 9 || cost < 0 || cost > 9 || what < -1) throw new NoSuchElementException();
      List<Integer> all = new ArrayList<>();
      for (int a = 0; a < 6; a++)
        for (int b = 0; b < 6; b++) {
          boolean rest = true;
          for (int d = 0; d < 6; d++) {
            rest &= (d > b ? worth : 0) - d * cost <= (a > b ? worth : 0) - a * cost;
            rest &= (d > a ? worth : 0) - d * cost <= (b > a ? worth : 0) - b * cost;
          }
          if (rest) all.add(10 * a + b);
        }
      if (what >= all.size()) throw new NoSuchElementException();
      return what < 0 ? all.size() : all.get(what);
    }
    int horsehair(int many, int right, int wrong, int tests) {
      if (many < 0 || many > 100 || right < 0 || right > 100 || wrong < 0 || wrong > 100 || tests < 1 || tests > 3) throw new NoSuchElementException();
      java.math.BigInteger a = java.math.BigInteger.valueOf(right).pow(tests).multiply(java.math.BigInteger.valueOf(many));
      java.math.BigInteger b = java.math.BigInteger.valueOf(wrong).pow(tests).multiply(java.math.BigInteger.valueOf(100 - many));
      if (a.add(b).signum() == 0) throw new NoSuchElementException();
      return a.multiply(java.math.BigInteger.valueOf(1000000)).divide(a.add(b)).intValue();
    }

    long g;
    int draw(int m) { g = (g * 1103515245 + 12345) & 0x7fffffffL; return (int) ((g >> 16) % m); }
    int centuries(int seed, int n, int what) {
      if (seed < 0 || seed > 9999 || n < 1 || n > 99 || what < 0 || what > 2) return -1;
      State was = state();
      g = seed;
      int office = 0, came = 0, worn = 0;
      for (int i = 0; i < n; i++) {
        if (!wigs.isEmpty() && !heads.isEmpty()) {
          int w = draw(wigs.size()), h = draw(heads.size());
          if (canPut(w, h)) on[w] = h;
        }
        if (draw(5) == 0)
          for (int h = 0; h < heads.size(); h++) if (wigOn(h) >= 0) { on[wigOn(h)] = -1; break; }
        came += pass();
        office += officeOn();
      }
      for (int x : wear) worn += x;
      back(was);
      return what == 0 ? office : what == 1 ? came : worn;
    }

    int mark(int m, boolean back) {
      if (m < 0 || m > 3 || back && !marks.containsKey(m)) return 0;
      if (!back) {
        marks.put(m, new Mark(state(), new ArrayList<>(years), new ArrayList<>(said), new TreeMap<>(told)));
      } else {
        Mark x = marks.get(m);
        back(x.state());
        years = new ArrayList<>(x.years());
        said = new ArrayList<>(x.said());
        told = new TreeMap<>(x.told());
        past.clear();
      }
      return 1;
    }

    int count(int what) {
      int bits = 0, out = 0;
      for (int w = 0; w < on.length; w++) { if (on[w] >= 0) bits += 1 << w; if (wear[w] == 9) out += 1 << w; }
      int[] all = {wigs.size(), heads.size(), slack, season, heat(season), bits, out, officeOn(), years.size(), said.size(), told.size(), past.size(), tape.length()};
      return what < 0 || what > 12 ? -1 : all[what];
    }
  }

  // ---- texts ----

  static final String[] NAMES = {"a", "b", "law", "sea", "post", "heat", "years", "sort", "wigged", "hard", "headed", "abcdefgh", "zz"};
  static final String[] ANY = {"wig", "head", "size", "office", "lean", "aged", "heats", "slack", "swells", "judges", "put", "off", "mend",
    "season", "plain", "hot", "bald", "boy", "not", "and", "or", "a", "b", "heat", "years", "sort", "wigged", "headed", "hard", "(", ")",
    "<", "=", "+", "-", "*", ";", "0", "7", "39", "40", "79", "80", "99", "100", "9999", "12345", "abcdefghi", "#", "A", "king"};

  static String expr(Random r, String[] facts, int depth) {
    StringBuilder b = new StringBuilder();
    int tests = 1 + (r.nextInt(4) == 0 ? 1 + r.nextInt(2) : 0);
    for (int i = 0; i < tests; i++) {
      if (i > 0) b.append(r.nextBoolean() ? " and " : " or ");
      b.append(sum(r, facts, depth));
      if (r.nextInt(3) == 0) b.append(r.nextBoolean() ? "<" : " = ").append(sum(r, facts, depth));
    }
    return b.toString();
  }

  static String sum(Random r, String[] facts, int depth) {
    StringBuilder b = new StringBuilder(part(r, facts, depth));
    for (int i = r.nextInt(3); i > 0; i--) b.append("+-*".charAt(r.nextInt(3))).append(part(r, facts, depth));
    return b.toString();
  }

  static String part(Random r, String[] facts, int depth) {
    int kind = r.nextInt(depth > 3 + r.nextInt(4) ? 5 : 8);
    if (kind < 2) return r.nextInt(20) == 0 ? "" + r.nextInt(10000) : "" + r.nextInt(10);
    if (kind < 5) return facts[r.nextInt(3)];
    if (kind < 6) return "not " + part(r, facts, depth + 1);
    return "(" + expr(r, facts, depth + 1) + ")";
  }

  static String realmText(Random r) {
    List<String> names = new ArrayList<>(Arrays.asList(NAMES));
    java.util.Collections.shuffle(names, r);
    List<String> lines = new ArrayList<>();
    int k = 0;
    int base = 44 + r.nextInt(30);
    int many = r.nextInt(20) == 0 ? 7 : r.nextInt(7);
    for (int i = many; i > 0; i--) lines.add("wig " + names.get(k++ % names.size()) + " size " + (base + r.nextInt(6)) + " office "
        + (r.nextInt(3) == 0 ? 10 * r.nextInt(4) : r.nextInt(100)) + " lean " + r.nextInt(10) + ";");
    for (int i = r.nextInt(20) == 0 ? 7 : r.nextInt(7); i > 0; i--) lines.add("head " + names.get(k++ % names.size()) + " "
        + new String[] {"plain", "hot", "bald", "boy"}[r.nextInt(4)] + " size " + (base - 3 + r.nextInt(7)) + " aged " + r.nextInt(100) + " lean " + r.nextInt(10) + ";");
    if (r.nextInt(4) > 0) {
      StringBuilder b = new StringBuilder("heats");
      for (int i = 1 + r.nextInt(r.nextInt(5) == 0 ? 13 : 4); i > 0; i--) b.append(' ').append(r.nextInt(r.nextInt(3) == 0 ? 10 : 3));
      lines.add(b + ";");
    }
    if (r.nextInt(5) > 0) lines.add("slack " + r.nextInt(r.nextInt(4) == 0 ? 10 : 5) + ";");
    if (r.nextInt(3) == 0) lines.add("swells " + expr(r, new String[] {"heat", "years", "sort"}, 0) + ";");
    if (r.nextInt(2) == 0) lines.add("judges " + expr(r, new String[] {"wigged", "headed", "hard"}, 0) + ";");
    if (r.nextInt(3) == 0) java.util.Collections.shuffle(lines, r);
    return String.join(r.nextBoolean() ? "" : "\n", lines);
  }

  static String yearsText(Random r, Twin t) {
    StringBuilder b = new StringBuilder();
    for (int i = r.nextInt(20) == 0 ? 38 + r.nextInt(5) : r.nextInt(15); i > 0; i--) {
      String w = t.wigs.isEmpty() || r.nextInt(40) == 0 ? NAMES[r.nextInt(NAMES.length)] : t.wigs.get(r.nextInt(t.wigs.size())).name();
      String h = t.heads.isEmpty() || r.nextInt(40) == 0 ? NAMES[r.nextInt(NAMES.length)] : t.heads.get(r.nextInt(t.heads.size())).name();
      switch (r.nextInt(8)) {
        case 0: b.append("off " + w + ";"); break;
        case 1: b.append("mend " + w + " ;"); break;
        case 2: case 3: b.append("season;"); break;
        default: b.append("put " + w + " " + h + ";");
      }
    }
    return b.toString();
  }

  static String spoil(Random r, String text) {
    Matcher m = Pattern.compile("[a-z]+|[0-9]+|[^ \\n]|[ \\n]+").matcher(text);
    List<String> parts = new ArrayList<>();
    while (m.find()) parts.add(m.group());
    if (parts.isEmpty()) return ANY[r.nextInt(ANY.length)];
    int i = r.nextInt(parts.size());
    switch (r.nextInt(4)) {
      case 0: parts.remove(i); break;
      case 1: parts.set(i, ANY[r.nextInt(ANY.length)]); break;
      case 2: parts.add(i, " " + ANY[r.nextInt(ANY.length)] + " "); break;
      default: return text.substring(0, r.nextInt(text.length() + 1)) + (r.nextBoolean() ? " \n" : "");
    }
    return String.join("", parts);
  }

  // ---- the runs ----

  interface Call { int answer(); }

  static String told(Call c) {
    try {
      return "" + c.answer();
    } catch (NoSuchElementException e) {
      return "throws";
    }
  }

  static final Map<String, Set<String>> SEEN = new TreeMap<>();
  static StringBuilder log = new StringBuilder();

  static void same(String name, String args, Call got, Call due) {
    String a = told(got), b = told(due);
    SEEN.computeIfAbsent(name, x -> new HashSet<>()).add(b);
    log.append(name).append('(').append(args).append(") ").append(b).append('\n');
    if (!a.equals(b)) {
      wrong++;
      if (wrong < 5) System.out.println(name + "(" + args + ") answered " + a + ", due is " + b + ", behind:\n" + log);
    }
  }

  static void feed(WigOffice x, Twin t, String text) {
    String padded = text;
    while (padded.length() % 24 != 0) padded += '\0';
    for (int i = 0; i < padded.length(); i += 24) {
      String piece = padded.substring(i, i + 24);
      long[] v = new long[3];
      for (int k = 0; k < 24; k++) v[k / 8] = v[k / 8] << 8 | piece.charAt(k);
      same("feed", piece, () -> x.feed(v[0], v[1], v[2]), () -> t.feed(piece));
    }
  }

  static int pick(Random r, int count) { return r.nextInt(12) == 0 ? r.nextInt(9) - 2 : count > 0 ? r.nextInt(count) : 0; }

  static void step(Random r, WigOffice x, Twin t) {
    int w = pick(r, t.wigs.size()), h = pick(r, t.heads.size()), hard = r.nextInt(11) - r.nextInt(2), what = r.nextInt(4);
    int wOrNone = r.nextInt(3) == 0 ? -1 : w;
    boolean yes = r.nextBoolean();
    String wh = w + ", " + h;
    switch (r.nextInt(34)) {
      case 0: { int k = r.nextInt(7) - 1; same("wig", w + ", " + k, () -> x.wig(w, k), () -> t.wig(w, k)); break; }
      case 1: { int k = r.nextInt(8) - 1; same("head", h + ", " + k, () -> x.head(h, k), () -> t.head(h, k)); break; }
      case 2: { int k = r.nextInt(3) == 0 ? r.nextInt(102) - 1 : r.nextInt(5); same("fits", wh + ", " + k, () -> x.fits(w, h, k) ? 1 : 0, () -> t.fits(w, h, k)); break; }
      case 3: case 4: case 5: case 6: same("put", wh, () -> x.put(w, h) ? 1 : 0, () -> t.put(w, h)); break;
      case 7: same("off", "" + w, () -> x.off(w), () -> t.off(w)); break;
      case 8: same("mend", "" + w, () -> x.mend(w), () -> t.mend(w)); break;
      case 9: case 10: same("season", "", () -> x.season(), () -> t.season()); break;
      case 11: same("undo", "", () -> x.undo() ? 1 : 0, () -> t.undo()); break;
      case 12: { int k = r.nextInt(5) - 1; same("judged", "" + k, () -> x.judged(k), () -> t.judged(k)); break; }
      case 13: same("verdict", "" + hard, () -> x.verdict(hard), () -> t.verdict(hard)); break;
      case 14: { int k = r.nextInt(3) == 0 ? r.nextInt(10) : 1 + r.nextInt(2); same("fill", k + ", " + wOrNone, () -> x.fill(k, wOrNone), () -> t.fill(k, wOrNone)); break; }
      case 15: {
        // Mostly what some lean would say, as else soon none is left.
        boolean so = h < 0 || h >= t.heads.size() || r.nextInt(6) == 0 ? yes : t.isFor(log.length() % 10 < 9 ? 4 : 5, h, hard);
        same("say", h + ", " + hard + ", " + so, () -> x.say(h, hard, so) ? 1 : 0, () -> t.say(h, hard, so));
        break;
      }
      case 16: { int k = r.nextInt(5) - 1; same("leans", "" + k, () -> x.leans(k), () -> t.leans(k)); break; }
      case 17: same("next", "" + h, () -> x.next(h), () -> t.next(h)); break;
      case 18: { int k = r.nextInt(42); same("baths", h + ", " + w + ", " + k, () -> x.baths(h, w, k), () -> t.baths(h, w, k)); break; }
      case 19: same("keeps", "" + w, () -> x.keeps(w), () -> t.keeps(w)); break;
      case 20: { int n = r.nextInt(6) % 5 + r.nextInt(2), k = r.nextInt(7) - 1; same("moths", n + ", " + k, () -> x.moths(n, k), () -> t.moths(n, k)); break; }
      case 21: case 22: { int k = r.nextInt(4) == 0 ? r.nextInt(12) - 1 : r.nextInt(3); same("tell", w + ", " + k, () -> x.tell(w, k) ? 1 : 0, () -> t.tell(w, k)); break; }
      case 23: same("under", "" + wOrNone, () -> x.under(wOrNone), () -> t.under(wOrNone)); break;
      case 24: same("ask", "", () -> x.ask(), () -> t.ask()); break;
      case 25: same("votes", "" + hard, () -> x.votes(hard), () -> t.votes(hard)); break;
      case 26: { int k = r.nextInt(8) == 0 ? r.nextInt(1004) - 2 : r.nextInt(200); same("power", w + ", " + k, () -> x.power(w, k), () -> t.power(w, k)); break; }
      case 27: if (r.nextInt(3) == 0) same("match", "" + h, () -> x.match(h), () -> t.match(h)); break;
      case 28: { int a = r.nextInt(12) - 1, b = r.nextInt(4) == 0 ? r.nextInt(12) - 1 : r.nextInt(3), k = r.nextInt(8) - 2; same("rests", a + ", " + b + ", " + k, () -> x.rests(a, b, k), () -> t.rests(a, b, k)); break; }
      case 29: { int a = r.nextInt(103) - 1, b = r.nextInt(103) - 1, c = r.nextInt(3) == 0 ? 0 : r.nextInt(103) - 1, k = r.nextInt(5); same("horsehair", a + ", " + b + ", " + c + ", " + k, () -> x.horsehair(a, b, c, k), () -> t.horsehair(a, b, c, k)); break; }
      case 30: { int seed = r.nextInt(10003) - 1, n = r.nextInt(101), k = r.nextInt(9) == 0 ? r.nextInt(5) - 1 : r.nextInt(3); same("centuries", seed + ", " + n + ", " + k, () -> x.centuries(seed, n, k), () -> t.centuries(seed, n, k)); break; }
      case 31: { int k = r.nextInt(6) - 1; boolean back = r.nextInt(3) == 0; same("mark", k + ", " + back, () -> x.mark(k, back) ? 1 : 0, () -> t.mark(k, back)); break; }
      default: { int k = r.nextInt(15) - 1; same("count", "" + k, () -> x.count(k), () -> t.count(k)); }
    }
  }

  static void run(int seed) {
    Random r = new Random(seed);
    WigOffice x = new WigOffice();
    Twin t = new Twin();
    log = new StringBuilder();
    for (int part = 0; part < 3; part++) {
      if (r.nextInt(10) > 0) {
        String text = realmText(r);
        boolean isSpoilt = r.nextInt(3) == 0;
        feed(x, t, isSpoilt ? spoil(r, text) : text);
        same("realm", "", () -> x.realm(), () -> t.realm());
      }
      for (int i = 0; i < 110; i++) {
        if (r.nextInt(40) == 0) {
          String text = yearsText(r, t);
          feed(x, t, r.nextInt(4) == 0 ? spoil(r, text) : text);
          same("years", "", () -> x.years(), () -> t.years());
        }
        step(r, x, t);
        if (wrong > 0) return;
      }
    }
  }

  public static void main(String[] args) {
    int runs = args.length > 0 ? Integer.parseInt(args[0]) : RUNS;
    int first = args.length > 1 ? Integer.parseInt(args[1]) : 0;
    for (int i = first; i < first + runs && wrong == 0; i++) run(i);
    for (Map.Entry<String, Set<String>> e : SEEN.entrySet()) {
      if (args.length > 0) System.out.println(e.getKey() + ": " + e.getValue().size() + " answers, " + new java.util.TreeSet<>(e.getValue()).toString().substring(0, Math.min(100, new java.util.TreeSet<>(e.getValue()).toString().length())));
      if (e.getValue().size() < 2) { wrong++; System.out.println(e.getKey() + " answered always " + e.getValue()); }
    }
    System.out.println(wrong == 0 ? "all answers are alike" : wrong + " answers are not alike");
    if (wrong != 0) System.exit(1);
  }
}
