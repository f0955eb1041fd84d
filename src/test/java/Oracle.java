import java.util.ArrayDeque;
import java.util.ArrayList;
import java.util.Arrays;
import java.util.Collections;
import java.util.Deque;
import java.util.HashMap;
import java.util.HashSet;
import java.util.List;
import java.util.Map;
import java.util.Set;
import java.util.TreeMap;
import java.util.TreeSet;

/**
 * The document read a second time, as plainly as the Java library lets it be: every answer is worked out
 * from what was told, nothing is kept, and acts are undone by going back to whole copies.
 */
final class Oracle {
  /** What acts change. */
  private static final class Told {
    int loose = 2, way = 3, rise = 2;
    final Set<List<Integer>> alike = new HashSet<>(), apart = new HashSet<>();
    final List<Object[]> clues = new ArrayList<>();
    final Map<Integer, int[]> guesses = new TreeMap<>();

    Told copy() {
      Told t = new Told();
      t.loose = loose; t.way = way; t.rise = rise;
      t.alike.addAll(alike); t.apart.addAll(apart); t.clues.addAll(clues); t.guesses.putAll(guesses);
      return t;
    }
  }

  private final List<Integer> tape = new ArrayList<>();
  private List<List<Integer>> forms = new ArrayList<>();
  private final List<List<String>> stones = new ArrayList<>();
  private final List<String> names = new ArrayList<>();
  private Told told = new Told();
  private final Deque<Told> acts = new ArrayDeque<>();
  private long x = 0;

  // ---- the tape

  int feed(int a, int b, int c, int d, int e) {
    if (tape.size() > 280) return -1;
    for (int n : new int[] {a, b, c, d, e})
      for (byte v : java.nio.ByteBuffer.allocate(4).putInt(n).array()) tape.add(v & 0xff);
    return tape.size();
  }

  int end(int n) {
    if (n < 0 || n > tape.size()) return -1;
    tape.subList(n, tape.size()).clear();
    return n;
  }

  private String takeTape() {
    StringBuilder b = new StringBuilder();
    for (int v : tape) b.append((char) v);
    tape.clear();
    return b.toString();
  }

  private static boolean digit(String s, int at) { return at < s.length() && s.charAt(at) >= '0' && s.charAt(at) <= '9'; }
  private static boolean is(String s, int at, char c) { return at < s.length() && s.charAt(at) == c; }

  /** All faults are gathered; the least is that of the first place, and of one place the least. */
  private static int answer(TreeSet<Integer> faults) { return -2 - faults.first(); }

  int forms() {
    String s = takeTape();
    TreeSet<Integer> faults = new TreeSet<>();
    List<List<Integer>> read = new ArrayList<>();
    int at = 0, begun = 0;
    scan:
    while (true) {
      while (is(s, at, ' ')) at++;
      if (at == s.length()) break;
      int begin = at;
      List<Integer> form = new ArrayList<>();
      boolean right = true;
      for (int i = 0; i < 5; i++) {
        while (is(s, at, ' ')) at++;
        int start = at;
        while (digit(s, at)) at++;
        if (at == start) { faults.add(8 * at + 1); break scan; }
        if (i == 0 && ++begun > 20) faults.add(8 * begin + 3);
        java.math.BigInteger v = new java.math.BigInteger(s.substring(start, at));
        if (v.compareTo(java.math.BigInteger.valueOf(31)) > 0) { faults.add(8 * start + 2); right = false; }
        form.add(v.intValue());
      }
      while (is(s, at, ' ')) at++;
      if (!is(s, at, ';')) { faults.add(8 * at + 1); break; }
      at++;
      if (right && read.contains(form)) faults.add(8 * begin + 4);
      read.add(form);
    }
    if (!faults.isEmpty()) return answer(faults);
    forms = read;
    stones.clear();
    told = new Told();
    acts.clear();
    return forms.size();
  }

  int stone() {
    if (stones.size() == 6) return -1;
    String s = takeTape();
    TreeSet<Integer> faults = new TreeSet<>();
    List<String> rows = new ArrayList<>();
    int at = 0;
    while (true) {
      int begin = at;
      StringBuilder row = new StringBuilder();
      while (is(s, at, '.')) row.append(s.charAt(at++));
      int letters = at;
      while (at < s.length() && Character.isLowerCase(s.charAt(at)) && s.charAt(at) < 128) {
        if (s.charAt(at) - 'a' >= forms.size()) faults.add(8 * at + 2);
        row.append(s.charAt(at++));
      }
      boolean some = at > letters;
      if (some) while (is(s, at, '.')) row.append(s.charAt(at++));
      if (row.length() > 10) faults.add(8 * (begin + 10) + 3);
      if (rows.size() == 4 && row.length() > 0) faults.add(8 * begin + 3);
      rows.add(row.toString());
      if (!some) { faults.add(8 * at + 1); break; }
      if (at == s.length()) break;
      if (!is(s, at, '/')) { faults.add(8 * at + 1); break; }
      at++;
    }
    if (!faults.isEmpty()) return answer(faults);
    stones.add(rows);
    acts.clear();
    return stones.size() - 1;
  }

  int name() {
    if (names.size() == 4) return -1;
    String s = takeTape();
    TreeSet<Integer> faults = new TreeSet<>();
    for (int i = 0; i < s.length(); i++)
      if ((i % 2 == 0 ? "ptkmnrlswj" : "aeiou").indexOf(s.charAt(i)) < 0) { faults.add(8 * i + 1); break; }
    if (s.length() < 4 || s.length() % 2 == 1) faults.add(8 * s.length() + 1);
    if (s.length() > 14 && "ptkmnrlswj".indexOf(s.charAt(14)) >= 0) faults.add(8 * 14 + 2);
    if (faults.isEmpty() && names.contains(s)) faults.add(3);
    if (!faults.isEmpty()) return answer(faults);
    names.add(s);
    return names.size() - 1;
  }

  // ---- forms and signs

  private boolean has(int f) { return f >= 0 && f < forms.size(); }

  private boolean dark(int f, int row, int column) {
    return (forms.get(f).get(Math.floorMod(row, 5)) & (16 >> Math.floorMod(column, 5))) != 0;
  }

  int unlike(int one, int other) {
    if (!has(one) || !has(other)) return -1;
    int least = 25;
    for (int dr = -1; dr <= 1; dr++)
      for (int dc = -1; dc <= 1; dc++) {
        int n = 0;
        for (int r = 0; r < 5; r++)
          for (int c = 0; c < 5; c++) if (dark(one, r, c) != dark(other, r + dr, c + dc)) n++;
        least = Math.min(least, n);
      }
    return least;
  }

  private static List<Integer> two(int a, int b) { return List.of(Math.min(a, b), Math.max(a, b)); }

  private boolean linked(int a, int b) {
    if (told.alike.contains(two(a, b))) return true;
    return unlike(a, b) <= told.loose && !told.apart.contains(two(a, b));
  }

  private TreeSet<Integer> formsOfSign(int form) {
    TreeSet<Integer> got = new TreeSet<>(List.of(form));
    for (boolean more = true; more; ) {
      more = false;
      for (int f = 0; f < forms.size(); f++)
        if (!got.contains(f)) for (int g : got) if (linked(f, g)) { got.add(f); more = true; break; }
    }
    return got;
  }

  /** Worked out for one call and dropped behind it. */
  private int[] signCache;

  private int sg(int form) {
    if (signCache == null) {
      signCache = new int[forms.size()];
      for (int f = 0; f < forms.size(); f++) signCache[f] = formsOfSign(f).first();
    }
    return signCache[form];
  }

  private void dropCaches() { signCache = null; rowCache = null; lexCache = null; lineCache = null; fileCache = null; }

  int sign(int form) { return has(form) ? sg(form) : -1; }
  int size(int form) { return has(form) ? formsOfSign(form).size() : -1; }

  private TreeSet<Integer> signs() {
    TreeSet<Integer> s = new TreeSet<>();
    for (int f = 0; f < forms.size(); f++) s.add(sg(f));
    return s;
  }

  int tree(int k, int what) {
    List<int[]> twos = new ArrayList<>();
    for (int i = 0; i < forms.size(); i++)
      for (int j = i + 1; j < forms.size(); j++) twos.add(new int[] {unlike(i, j), i, j});
    twos.sort((p, q) -> Arrays.compare(p, q));
    List<Set<Integer>> groups = new ArrayList<>();
    for (int i = 0; i < forms.size(); i++) groups.add(new HashSet<>(Set.of(i)));
    List<int[]> tree = new ArrayList<>();
    for (int[] t : twos) {
      Set<Integer> a = null, b = null;
      for (Set<Integer> g : groups) { if (g.contains(t[1])) a = g; if (g.contains(t[2])) b = g; }
      if (a == b) continue;
      groups.remove(b);
      a.addAll(b);
      tree.add(t);
    }
    return k >= 0 && k < tree.size() && what >= 0 && what < 3 ? tree.get(k)[what] : -1;
  }

  // ---- acts

  private void act() {
    acts.addLast(told.copy());
    if (acts.size() > 20) acts.removeFirst();
    dropCaches();
  }

  int loose(int n) { if (n < 0 || n > 25 || n == told.loose) return -1; act(); int w = told.loose; told.loose = n; return w; }
  int way(int n) { if (n < 0 || n > 3 || n == told.way) return -1; act(); int w = told.way; told.way = n; return w; }
  int rise(int n) { if (n < 1 || n > 9 || n == told.rise) return -1; act(); int w = told.rise; told.rise = n; return w; }

  boolean alike(int one, int other, boolean is) { return tie(one, other, is, true); }
  boolean apart(int one, int other, boolean is) { return tie(one, other, is, false); }

  private boolean tie(int one, int other, boolean is, boolean alike) {
    if (!has(one) || !has(other) || one == other) return false;
    if ((alike ? told.alike : told.apart).contains(two(one, other)) == is) return false;
    act();
    Set<List<Integer>> mine = alike ? told.alike : told.apart, its = alike ? told.apart : told.alike;
    if (is) { mine.add(two(one, other)); its.remove(two(one, other)); } else mine.remove(two(one, other));
    return true;
  }

  int clue(int one, int other, boolean file) {
    if (!has(one) || !has(other) || sg(one) == sg(other) || told.clues.size() == 12) return -1;
    for (Object[] c : told.clues) if (c[0].equals(two(one, other)) && c[1].equals(file)) return -1;
    act();
    told.clues.add(new Object[] {two(one, other), file});
    return told.clues.size();
  }

  int guess(int form, int consonant, int vowel) {
    if (!has(form)) return -1;
    boolean none = consonant == -1 && vowel == -1;
    if (!none && (consonant < 0 || consonant > 9 || vowel < 0 || vowel > 4)) return -1;
    int[] now = told.guesses.get(form);
    if (none ? now == null : now != null && now[0] == consonant && now[1] == vowel) return -1;
    act();
    if (none) told.guesses.remove(form); else told.guesses.put(form, new int[] {consonant, vowel});
    return disputed().size();
  }

  int undo() {
    if (acts.isEmpty()) return -1;
    told = acts.removeLast();
    dropCaches();
    return acts.size();
  }

  // ---- reading

  private static String bare(String row) { return row.replace(".", ""); }
  private static int left(String row) { int n = 0; while (row.charAt(n) == '.') n++; return n; }
  private static int right(String row) { int n = 0; while (row.charAt(row.length() - 1 - n) == '.') n++; return n; }

  int judged(int what) {
    int rr = 0, rl = 0;
    Set<Integer> er = new HashSet<>(), el = new HashSet<>();
    for (List<String> stone : stones) {
      String last = stone.get(stone.size() - 1);
      if (stone.size() >= 2 && right(last) > left(last)) rr++;
      if (stone.size() >= 2 && right(last) < left(last)) rl++;
      for (String row : stone) {
        String b = bare(row);
        er.add(sg(b.charAt(b.length() - 1) - 'a'));
        el.add(sg(b.charAt(0) - 'a'));
      }
    }
    int to = rr > rl ? 0 : rl > rr ? 1 : er.size() < el.size() ? 0 : el.size() < er.size() ? 1 : 0;
    return what == 0 ? to : what == 1 ? rr : what == 2 ? rl : what == 3 ? er.size() : what == 4 ? el.size() : -1;
  }

  private String asRead(int stone, int row) {
    StringBuilder b = new StringBuilder();
    for (char c : bare(stones.get(stone).get(row)).toCharArray()) b.append((char) ('a' + sg(c - 'a')));
    int way = told.way == 3 ? judged(0) : told.way;
    boolean left = way == 1 || way == 2 && row % 2 == 1;
    return left ? b.reverse().toString() : b.toString();
  }

  private List<String> rowCache;

  private List<String> rows() {
    if (rowCache == null) {
      rowCache = new ArrayList<>();
      for (int s = 0; s < stones.size(); s++)
        for (int r = 0; r < stones.get(s).size(); r++) rowCache.add(asRead(s, r));
    }
    return rowCache;
  }

  int read(int stone, int row, int k) {
    if (stone < 0 || stone >= stones.size() || row < 0 || row >= stones.get(stone).size()) return -1;
    String r = asRead(stone, row);
    if (k == -1) return r.length();
    return k >= 0 && k < r.length() ? r.charAt(k) - 'a' : -1;
  }

  private int comesOf(String piece) {
    int n = 0;
    for (String r : rows()) for (int i = 0; i < r.length(); i++) if (r.startsWith(piece, i)) n++;
    return n;
  }

  private int nextOf(String piece) {
    Set<String> seen = new HashSet<>();
    for (String r : rows())
      for (int i = 0; i < r.length(); i++)
        if (r.startsWith(piece, i)) {
          int e = i + piece.length();
          seen.add(e == r.length() ? "end" : r.substring(e, e + 1));
        }
    return seen.size();
  }

  private String tapePiece() {
    String s = takeTape();
    if (s.isEmpty() || s.length() > 7) return null;
    StringBuilder b = new StringBuilder();
    for (char c : s.toCharArray()) {
      if (!has(c - 'a')) return null;
      b.append((char) ('a' + sg(c - 'a')));
    }
    return b.toString();
  }

  int comes() { String p = tapePiece(); return p == null ? -1 : comesOf(p); }
  int next() { String p = tapePiece(); return p == null ? -1 : nextOf(p); }

  // ---- words

  private List<String> cut() {
    List<String> words = new ArrayList<>();
    for (String r : rows()) {
      String word = "";
      for (char c : r.toCharArray()) {
        String before = word;
        word = word + c;
        boolean ends = word.length() == 7;
        if (word.length() >= 2) ends |= nextOf(word) > nextOf(before) && nextOf(word) >= told.rise;
        if (ends) { words.add(word); word = ""; }
      }
      if (!word.isEmpty()) words.add(word);
    }
    return words;
  }

  private TreeMap<String, Integer> lexCache;

  TreeMap<String, Integer> lexicon() {
    if (lexCache == null) {
      lexCache = new TreeMap<>();
      for (String w : cut()) lexCache.merge(w, 1, Integer::sum);
    }
    return lexCache;
  }

  List<String> lex() { return new ArrayList<>(lexicon().keySet()); }

  int words() { return lexicon().size(); }

  int word(int k, int what) {
    if (k < 0 || k >= words() || what < 0 || what > 8) return -1;
    String w = lex().get(k);
    if (what == 0) return lexicon().get(w);
    if (what == 1) return w.length();
    return what - 2 < w.length() ? w.charAt(what - 2) - 'a' : -1;
  }

  int rank(int k) {
    if (k < 0 || k >= words()) return -1;
    List<String> by = lex();
    by.sort((p, q) -> lexicon().get(q) - lexicon().get(p));
    return lex().indexOf(by.get(k));
  }

  int stands(int form, int what) {
    if (!has(form) || what < 0 || what > 3) return -1;
    String s = "" + (char) ('a' + sg(form));
    if (what == 0) return comesOf(s);
    int n = 0;
    if (what == 3) for (String w : lex()) n += w.contains(s) ? 1 : 0;
    else for (String w : cut()) n += (what == 1 ? w.startsWith(s) : w.endsWith(s)) ? 1 : 0;
    return n;
  }

  int ahead(int one, int other) {
    if (!has(one) || !has(other)) return -1;
    return comesOf("" + (char) ('a' + sg(one)) + (char) ('a' + sg(other)));
  }

  int stem(int k, int what) {
    TreeMap<String, TreeSet<Integer>> stems = new TreeMap<>();
    for (String w : lex())
      if (w.length() >= 3)
        stems.computeIfAbsent(w.substring(0, w.length() - 1), q -> new TreeSet<>()).add(w.charAt(w.length() - 1) - 'a');
    stems.values().removeIf(e -> e.size() < 2);
    if (k == -1) return stems.size();
    if (k < 0 || k >= stems.size() || what < 0 || what > 8) return -1;
    String s = new ArrayList<>(stems.keySet()).get(k);
    int bits = 0;
    for (int e : stems.get(s)) bits += 1 << e;
    if (what == 0) return stems.get(s).size();
    if (what == 1) return bits;
    if (what == 2) return s.length();
    return what - 3 < s.length() ? s.charAt(what - 3) - 'a' : -1;
  }

  // ---- the grid

  private Set<List<Integer>> twosOf(boolean file) {
    Set<List<Integer>> twos = new HashSet<>();
    for (String v : lex())
      for (String w : lex()) {
        if (v.equals(w) || v.length() != w.length() || v.length() < 2) continue;
        int n = v.length();
        if (file && v.substring(1).equals(w.substring(1))) twos.add(two(v.charAt(0) - 'a', w.charAt(0) - 'a'));
        if (!file && v.substring(0, n - 1).equals(w.substring(0, n - 1)))
          twos.add(two(v.charAt(n - 1) - 'a', w.charAt(n - 1) - 'a'));
      }
    for (Object[] c : told.clues)
      if (c[1].equals(file)) {
        @SuppressWarnings("unchecked") List<Integer> t = (List<Integer>) c[0];
        if (sg(t.get(0)) != sg(t.get(1))) twos.add(two(sg(t.get(0)), sg(t.get(1))));
      }
    return twos;
  }

  private int[][] lineCache, fileCache;

  private int[][] far(boolean file) {
    if (file && fileCache != null) return fileCache;
    if (!file && lineCache != null) return lineCache;
    int[][] d = new int[20][20];
    for (int i = 0; i < 20; i++) for (int j = 0; j < 20; j++) d[i][j] = i == j ? 0 : 1000;
    for (List<Integer> t : twosOf(file)) { d[t.get(0)][t.get(1)] = 1; d[t.get(1)][t.get(0)] = 1; }
    for (int m = 0; m < 20; m++)
      for (int i = 0; i < 20; i++) for (int j = 0; j < 20; j++) d[i][j] = Math.min(d[i][j], d[i][m] + d[m][j]);
    if (file) fileCache = d; else lineCache = d;
    return d;
  }

  private boolean together(int s, int t, boolean file) { return far(file)[s][t] < 1000; }

  int clues(boolean file) { return twosOf(file).size(); }

  int place(int form, boolean file) {
    if (!has(form)) return -1;
    for (int s : signs()) if (together(s, sg(form), file)) return s;
    throw new IllegalStateException();
  }

  private List<int[]> clashList() {
    List<int[]> found = new ArrayList<>();
    for (int s : signs())
      for (int t : signs())
        if (s < t && together(s, t, true) && together(s, t, false))
          found.add(new int[] {s, t, far(true)[s][t] + far(false)[s][t]});
    return found;
  }

  int clash(int what) {
    if (what < 0 || what > 2) return -1;
    return clashList().isEmpty() ? -2 : clashList().get(0)[what];
  }

  int clashes() { return clashList().size(); }

  private int knownOf(int sign, boolean vowel) {
    for (Map.Entry<Integer, int[]> g : told.guesses.entrySet())
      if (together(sg(g.getKey()), sign, vowel)) return g.getValue()[vowel ? 1 : 0];
    return -1;
  }

  private Set<Integer> disputed() {
    Set<Integer> bad = new TreeSet<>();
    for (int s : signs()) {
      Set<Integer> cs = new HashSet<>(), vs = new HashSet<>();
      for (Map.Entry<Integer, int[]> g : told.guesses.entrySet()) {
        if (together(sg(g.getKey()), s, false)) cs.add(g.getValue()[0]);
        if (together(sg(g.getKey()), s, true)) vs.add(g.getValue()[1]);
      }
      if (cs.size() > 1 || vs.size() > 1) bad.add(s);
      for (int t : signs())
        if (t != s && !cs.isEmpty() && !vs.isEmpty()
            && knownOf(s, false) == knownOf(t, false) && knownOf(s, true) == knownOf(t, true)) bad.add(s);
    }
    return bad;
  }

  int known(int form, int what) {
    if (!has(form) || what < 0 || what > 2) return -1;
    return what == 2 ? disputed().contains(sg(form)) ? 1 : 0 : knownOf(sg(form), what == 1);
  }

  // ---- names

  private static String syllable(String name, int i) { return name.substring(2 * i, 2 * i + 2); }
  private static String spelt(int c, int v) {
    return (c < 0 ? "?" : "" + "ptkmnrlswj".charAt(c)) + (v < 0 ? "?" : "" + "aeiou".charAt(v));
  }

  private Map<Integer, String> knowns() {
    Map<Integer, String> m = new TreeMap<>();
    for (int s : signs()) m.put(s, spelt(knownOf(s, false), knownOf(s, true)));
    return m;
  }

  private static boolean fit(String word, String name, Map<Integer, String> knowns) {
    if (word.length() * 2 != name.length()) return false;
    Set<String> pairs = new HashSet<>(), syllables = new HashSet<>();
    Set<Integer> signs = new HashSet<>();
    for (int i = 0; i < word.length(); i++) {
      int s = word.charAt(i) - 'a';
      String y = syllable(name, i), k = knowns.getOrDefault(s, "??");
      if (k.charAt(0) != '?' && k.charAt(0) != y.charAt(0)) return false;
      if (k.charAt(1) != '?' && k.charAt(1) != y.charAt(1)) return false;
      pairs.add(s + y);
      syllables.add(y);
      signs.add(s);
    }
    return pairs.size() == syllables.size() && pairs.size() == signs.size();
  }

  int fits(int name, int k) {
    if (name < 0 || name >= names.size()) return -1;
    List<Integer> fitting = new ArrayList<>();
    Map<Integer, String> ks = knowns();
    for (int w = 0; w < words(); w++) if (fit(lex().get(w), names.get(name), ks)) fitting.add(w);
    if (k == -1) return fitting.size();
    return k >= 0 && k < fitting.size() ? fitting.get(k) : -1;
  }

  private int hitsBy(Map<Integer, String> knowns) {
    int n = 0;
    for (String name : names)
      for (String w : lex()) {
        boolean all = true;
        for (char c : w.toCharArray()) all &= !knowns.getOrDefault(c - 'a', "??").contains("?");
        if (all && fit(w, name, knowns)) n++;
      }
    return n;
  }

  int hits() { return hitsBy(knowns()); }

  private boolean allRight(List<String> chosen) {
    List<Object[]> stand = new ArrayList<>();
    for (int n = 0; n < chosen.size(); n++)
      for (int i = 0; i < chosen.get(n).length(); i++)
        stand.add(new Object[] {chosen.get(n).charAt(i) - 'a', syllable(names.get(n), i)});
    for (Object[] p : stand)
      for (Object[] q : stand) {
        int s = (Integer) p[0], t = (Integer) q[0];
        String y = (String) p[1], z = (String) q[1];
        if ((s == t) != y.equals(z)) return false;
        if (together(s, t, false) && y.charAt(0) != z.charAt(0)) return false;
        if (together(s, t, true) && y.charAt(1) != z.charAt(1)) return false;
      }
    return new HashSet<>(chosen).size() == chosen.size();
  }

  private void tryWays(List<String> chosen, List<String> lex, Map<Integer, String> ks, List<List<String>> found) {
    if (found.size() >= 999 || !allRight(chosen)) return;
    if (chosen.size() == names.size()) { found.add(new ArrayList<>(chosen)); return; }
    for (String w : lex)
      if (fit(w, names.get(chosen.size()), ks)) {
        chosen.add(w);
        tryWays(chosen, lex, ks, found);
        chosen.remove(chosen.size() - 1);
      }
  }

  int ways(int name) {
    if (name < -1 || name >= names.size()) return -1;
    List<List<String>> found = new ArrayList<>();
    tryWays(new ArrayList<>(), lex(), knowns(), found);
    if (name == -1) return found.size();
    return found.isEmpty() ? -2 : lex().indexOf(found.get(0).get(name));
  }

  int draws(int n) {
    if (n < 0) return -1;
    int was = (int) x;
    x = n;
    return was;
  }

  int test(int m) {
    if (m < 1 || m > 50) return -1;
    List<Integer> whole = new ArrayList<>();
    Map<Integer, String> ks = knowns();
    for (int s : ks.keySet()) if (!ks.get(s).contains("?")) whole.add(s);
    int due = hits(), met = 0;
    long y = x;
    for (int n = 0; n < m; n++) {
      List<String> v = new ArrayList<>();
      for (int s : whole) v.add(ks.get(s));
      for (int i = v.size() - 1; i > 0; i--) {
        y = (y * 1103515245L + 12345L) % 2147483648L;
        Collections.swap(v, i, (int) (y / 65536 % (i + 1)));
      }
      Map<Integer, String> changed = new TreeMap<>();
      for (int i = 0; i < v.size(); i++) changed.put(whole.get(i), v.get(i));
      if (hitsBy(changed) >= due) met++;
    }
    return met;
  }

  int count(int what) {
    int n = 0;
    switch (what) {
      case 0: return forms.size();
      case 1: return signs().size();
      case 2: return stones.size();
      case 3: return rows().size();
      case 4: for (String r : rows()) n += r.length(); return n;
      case 5: return cut().size();
      case 6: return told.loose;
      case 7: return told.way;
      case 8: return told.rise;
      case 9: return names.size();
      case 10: for (int s : signs()) n += place(s, false) == s ? 1 : 0; return n;
      case 11: for (int s : signs()) n += place(s, true) == s ? 1 : 0; return n;
      case 12: return disputed().size();
      case 13: return told.guesses.size();
      case 14: return told.clues.size();
      case 15: return acts.size();
      case 16: return (int) x;
      case 17: return tape.size();
      default: return -1;
    }
  }

  /** To be called ahead of each call, as caches live for one call alone. */
  Oracle fresh() { dropCaches(); return this; }
}
