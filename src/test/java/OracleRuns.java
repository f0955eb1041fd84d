import java.util.ArrayList;
import java.util.List;
import java.util.Random;

/** Runs of calls, made by chance from fixed numbers, on the class and on Oracle: all answers must be the same. */
public final class OracleRuns {
  private static final int RUNS = Integer.getInteger("runs", 500);
  /** A run may go on a little behind these, but not beyond 512 calls. */
  private static final int CALLS = 480;
  private static int wrong = 0;

  private final Random by;
  private final UnreadSigns x = new UnreadSigns();
  private final Oracle o = new Oracle();
  private final List<String> calls = new ArrayList<>();
  private final int[] syllables = new int[20];
  private final int letters;
  /** A run in which SIGNS and WORDS stay much as they are, so that NAMES find WORDS that FIT. */
  private final boolean steady;
  /** A steady run in which each ROW is a WORD of a language, five letters a consonant, so that WAYS are found. */
  private final boolean planted;
  /** A planted run in which each ROW is any seven letters and a WORD of three, so that the LEXICON has some 48 WORDS. */
  private final boolean lengthy;
  private boolean failed = false;

  private OracleRuns(long seed) {
    // Random begins much alike for numbers that are near.
    by = new Random(seed * 0x9E3779B97F4A7C15L);
    steady = oneOf(2);
    planted = steady && oneOf(2);
    lengthy = planted && oneOf(3);
    letters = planted ? 20 : steady ? 3 + by.nextInt(16) : by.nextInt(8) == 0 ? by.nextInt(21) : 2 + by.nextInt(10);
    int consonants = 1 + by.nextInt(10);
    if (planted) {
      for (int i = 0; i < 20; i++) syllables[i] = i;
      return;
    }
    boolean unlike = !oneOf(4) && consonants > 4;
    for (int i = 0; i < 20; i++) {
      syllables[i] = by.nextInt(consonants) * 5 + by.nextInt(5);
      for (int k = 0; k < i && unlike; k++) if (syllables[k] == syllables[i]) { i--; break; }
    }
  }

  private void same(String call, long got, long want) {
    calls.add(call + " = " + got);
    if (got == want || failed) return;
    failed = true;
    wrong++;
    System.out.println("after " + calls.subList(Math.max(0, calls.size() - 60), calls.size()) + "\n  " + call + ": Oracle answers " + want);
  }

  private boolean full() { return failed || calls.size() >= CALLS; }
  private int upTo(int n) { return by.nextInt(n + 1); }
  private boolean oneOf(int n) { return by.nextInt(n) == 0; }
  private boolean coin() { return by.nextBoolean(); }

  private void tell(String text) {
    if (full()) return;
    int at = 0;
    byte[] b = new byte[(text.length() + 19) / 20 * 20];
    for (int i = 0; i < text.length(); i++) b[i] = (byte) text.charAt(i);
    java.nio.IntBuffer n = java.nio.ByteBuffer.wrap(b).asIntBuffer();
    for (; at < b.length / 4; at += 5) {
      int[] v = {n.get(at), n.get(at + 1), n.get(at + 2), n.get(at + 3), n.get(at + 4)};
      same("feed " + text.substring(at * 4, Math.min(text.length(), at * 4 + 20)),
          x.feed(v[0], v[1], v[2], v[3], v[4]), o.feed(v[0], v[1], v[2], v[3], v[4]));
    }
    same("end " + text.length(), x.end(text.length()), o.end(text.length()));
  }

  private String spoilt(String text, String with) {
    if (!oneOf(6)) return text;
    StringBuilder b = new StringBuilder(text);
    int at = upTo(b.length());
    if (coin() || at == b.length()) b.insert(at, with.charAt(by.nextInt(with.length())));
    else if (coin()) b.deleteCharAt(at);
    else b.setCharAt(at, with.charAt(by.nextInt(with.length())));
    return b.toString();
  }

  private String formText() {
    StringBuilder b = new StringBuilder();
    List<int[]> kinds = new ArrayList<>();
    int n = oneOf(10) && !planted ? 18 + upTo(4) : letters;
    for (int i = 0; i < n; i++) {
      int[] f = new int[5];
      if (!kinds.isEmpty() && oneOf(steady ? 20 : 2)) {
        f = kinds.get(by.nextInt(kinds.size())).clone();
        for (int flips = upTo(3); flips >= 0; flips--) f[by.nextInt(5)] ^= 1 << by.nextInt(5);
        if (oneOf(3)) { int t = f[0]; System.arraycopy(f, 1, f, 0, 4); f[4] = t; }
        if (oneOf(3)) for (int r = 0; r < 5; r++) f[r] = f[r] >> 1 | (f[r] & 1) << 4;
      } else for (int r = 0; r < 5; r++) f[r] = n > 14 && !oneOf(4) ? by.nextInt(10) : by.nextInt(32);
      kinds.add(f);
      for (int r = 0; r < 5; r++) {
        if (r > 0 || oneOf(9)) b.append(oneOf(30) ? "  " : " ");
        if (oneOf(60)) b.append('0');
        b.append(f[r]);
      }
      if (oneOf(20)) b.append(' ');
      b.append(';');
    }
    if (oneOf(9)) b.append(' ');
    String s = spoilt(b.toString(), " ;0123456789x\377");
    return s.length() > 300 ? s.substring(0, 300) : s;
  }

  private final List<String> pool = new ArrayList<>();

  private String plantedWord() {
    char[] w = new char[lengthy ? 3 : 2 + (oneOf(2) ? 0 : upTo(2))];
    for (int i = 0; i < w.length; i++) w[i] = (char) ('a' + upTo(19));
    if (!pool.isEmpty() && !oneOf(3)) w = pool.get(by.nextInt(pool.size())).toCharArray();
    int last = w[w.length - 1] - 'a', first = w[0] - 'a';
    if (oneOf(3)) w[w.length - 1] = (char) ('a' + last / 5 * 5 + upTo(4));
    if (oneOf(3)) w[0] = (char) ('a' + first % 5 + 5 * upTo(3));
    pool.add(new String(w));
    return new String(w);
  }

  private String lengthyRow() {
    StringBuilder b = new StringBuilder();
    for (int i = 0; i < 7; i++) b.append((char) ('a' + upTo(19)));
    return b + plantedWord();
  }

  private String stoneText() {
    if (lengthy) return spoilt(lengthyRow() + "/" + lengthyRow() + "/" + lengthyRow() + "/" + lengthyRow(), "abt");
    if (planted) return spoilt(plantedWord() + "/" + plantedWord() + "/" + plantedWord() + "/" + plantedWord(), ".");
    if (pool.isEmpty())
      for (int i = 0; i < 6; i++) {
        StringBuilder w = new StringBuilder();
        for (int k = 1 + upTo(2); k >= 0; k--) w.append((char) ('a' + upTo(Math.max(0, letters - 1))));
        pool.add(w.toString());
      }
    StringBuilder b = new StringBuilder();
    for (int rows = oneOf(20) ? 5 : 1 + upTo(3); rows > 0; rows--) {
      StringBuilder r = new StringBuilder();
      for (int n = steady ? 4 : 1 + upTo(3); n > 0; n--) {
        String w = pool.get(by.nextInt(pool.size()));
        r.append(w);
        if (oneOf(2)) r.setCharAt(r.length() - 1, (char) ('a' + upTo(Math.max(0, letters - 1))));
        if (oneOf(3)) r.setCharAt(r.length() - w.length(), (char) ('a' + upTo(Math.max(0, letters - 1))));
      }
      if (r.length() > 10 && !oneOf(30)) r.setLength(10);
      if (oneOf(3)) r.insert(0, ".".repeat(Math.min(upTo(2), Math.max(0, 10 - r.length()))));
      if (oneOf(3)) r.append(".".repeat(Math.min(upTo(2), Math.max(0, 10 - r.length()))));
      b.append(r);
      if (rows > 1) b.append('/');
    }
    return spoilt(b.toString(), ".abcdefghitz/A \200");
  }

  private String nameText() {
    List<String> words = new ArrayList<>();
    for (String w : o.fresh().lex()) if (lengthy ? w.length() == 3 : w.length() > 1) words.add(w);
    StringBuilder b = new StringBuilder();
    if (!words.isEmpty() && !oneOf(planted ? 6 : steady ? 2 : 8)) {
      for (char c : words.get(by.nextInt(words.size())).toCharArray()) spell(b, syllables[c - 'a']);
    } else for (int n = 2 + upTo(steady ? 1 : 6); n > 0; n--) spell(b, syllables[upTo(19)]);
    return oneOf(steady ? 9 : 3) ? spoilt(b.toString(), "ptkmnrlswjaeioub ") : b.toString();
  }

  private static void spell(StringBuilder b, int syllable) {
    b.append("ptkmnrlswj".charAt(syllable / 5)).append("aeiou".charAt(syllable % 5));
  }

  private int form() { return oneOf(12) ? upTo(25) - 3 : upTo(Math.max(0, letters - 1)); }
  private int what(int most) { return oneOf(15) ? upTo(most + 6) - 3 : upTo(most); }
  private int which() { return oneOf(10) ? upTo(130) - 2 : upTo(9) - 1; }

  private void act() {
    if (full()) return;
    o.fresh();
    int a = form(), b = form(), n;
    boolean is = !oneOf(4), file = coin();
    switch (steady && !oneOf(12) ? 5 + by.nextInt(4) : by.nextInt(9)) {
      case 0: n = oneOf(4) ? what(25) : upTo(6); same("loose " + n, x.loose(n), o.loose(n)); break;
      case 1: n = what(3); same("way " + n, x.way(n), o.way(n)); break;
      case 2: n = oneOf(2) ? what(9) : 1 + upTo(2); same("rise " + n, x.rise(n), o.rise(n)); break;
      case 3: same("alike " + a + " " + b + " " + is, x.alike(a, b, is) ? 1 : 0, o.alike(a, b, is) ? 1 : 0); break;
      case 4: same("apart " + a + " " + b + " " + is, x.apart(a, b, is) ? 1 : 0, o.apart(a, b, is) ? 1 : 0); break;
      case 5: same("clue " + a + " " + b + " " + file, x.clue(a, b, file), o.clue(a, b, file)); break;
      case 6: case 7:
        int c = what(9), v = what(4);
        if (oneOf(4)) { c = -1; v = -1; }
        else if (!oneOf(planted ? 15 : 4) && a >= 0 && a < 20) { c = syllables[a] / 5; v = syllables[a] % 5; }
        same("guess " + a + " " + c + " " + v, x.guess(a, c, v), o.guess(a, c, v));
        break;
      default:
        for (n = 1 + (oneOf(15) ? 22 : upTo(2)); n > 0; n--) same("undo", x.undo(), o.undo());
    }
  }

  private void ask() {
    if (full()) return;
    o.fresh();
    int a = form(), b = form(), k = which(), n;
    boolean file = coin();
    switch (steady && !oneOf(3) ? 17 + by.nextInt(12) : by.nextInt(31)) {
      case 0: same("unlike " + a + " " + b, x.unlike(a, b), o.unlike(a, b)); break;
      case 1: same("sign " + a, x.sign(a), o.sign(a)); break;
      case 2: same("size " + a, x.size(a), o.size(a)); break;
      case 3: n = what(2); same("tree " + k + " " + n, x.tree(k, n), o.tree(k, n)); break;
      case 4: n = what(4); same("judged " + n, x.judged(n), o.judged(n)); break;
      case 5: case 6:
        int s = what(5), r = what(3);
        same("read " + s + " " + r + " " + k, x.read(s, r, k), o.read(s, r, k));
        break;
      case 7: case 8:
        tell(pieceText());
        if (full()) break;
        o.fresh();
        if (coin()) same("comes", x.comes(), o.comes()); else same("next", x.next(), o.next());
        break;
      case 9: same("words", x.words(), o.words()); break;
      case 10: case 11: n = what(8); same("word " + k + " " + n, x.word(k, n), o.word(k, n)); break;
      case 12: same("rank " + k, x.rank(k), o.rank(k)); break;
      case 13: n = what(3); same("stands " + a + " " + n, x.stands(a, n), o.stands(a, n)); break;
      case 14: same("ahead " + a + " " + b, x.ahead(a, b), o.ahead(a, b)); break;
      case 15: case 16: n = what(8); k = upTo(3) - 1; same("stem " + k + " " + n, x.stem(k, n), o.stem(k, n)); break;
      case 17: same("clues " + file, x.clues(file), o.clues(file)); break;
      case 18: same("place " + a + " " + file, x.place(a, file), o.place(a, file)); break;
      case 19: n = what(2); same("clash " + n, x.clash(n), o.clash(n)); break;
      case 20: same("clashes", x.clashes(), o.clashes()); break;
      case 21: case 22: n = what(2); same("known " + a + " " + n, x.known(a, n), o.known(a, n)); break;
      case 23: n = what(3); same("fits " + n + " " + k, x.fits(n, k), o.fits(n, k)); break;
      case 24: same("hits", x.hits(), o.hits()); break;
      case 25: case 26: n = upTo(5) - 1; same("ways " + n, x.ways(n), o.ways(n)); break;
      case 27: n = oneOf(9) ? -1 - upTo(9) : by.nextInt() & 0x7fffffff; same("draws " + n, x.draws(n), o.draws(n)); break;
      case 28: n = oneOf(9) ? what(50) : 1 + upTo(9); same("test " + n, x.test(n), o.test(n)); break;
      default: n = what(17); same("count " + n, x.count(n), o.count(n));
    }
  }

  private String pieceText() {
    StringBuilder b = new StringBuilder();
    List<String> lex = o.fresh().lex();
    if (!lex.isEmpty() && oneOf(2)) {
      String w = lex.get(by.nextInt(lex.size()));
      b.append(w, 0, 1 + by.nextInt(w.length()));
    } else for (int n = 1 + upTo(oneOf(9) ? 8 : 2); n > 0; n--) b.append((char) ('a' + upTo(Math.max(0, letters - 1))));
    return oneOf(2) ? b.toString() : spoilt(b.toString(), "abt./z ");
  }

  private void emptyTape() {
    o.fresh();
    while (o.count(17) != 0 && !full()) {
      int n = oneOf(3) ? upTo(3) - 1 : 0;
      same("end " + n, x.end(n), o.end(n));
    }
  }

  private void tellForms() {
    emptyTape();
    tell(formText());
    o.fresh();
    same("forms", x.forms(), o.forms());
  }

  private void tellStone() {
    emptyTape();
    tell(stoneText());
    o.fresh();
    same("stone", x.stone(), o.stone());
  }

  private void tellName() {
    emptyTape();
    tell(nameText());
    o.fresh();
    same("name", x.name(), o.name());
  }

  private void overfeed() {
    int v = by.nextInt();
    for (int n = upTo(17); n > 0; n--) same("feed " + v, x.feed(v, v, v, v, v), o.feed(v, v, v, v, v));
    int k = upTo(310) - 5;
    same("end " + k, x.end(k), o.end(k));
  }

  private void run() {
    if (oneOf(20)) for (int n = 0; n < 40; n++) { ask(); act(); }
    for (int n = 0; n < 5; n++) if (o.fresh().count(0) == 0) tellForms();
    if (steady || oneOf(3)) { int n = steady ? 0 : upTo(3); o.fresh(); same("loose " + n, x.loose(n), o.loose(n)); }
    for (int n = lengthy ? 7 : oneOf(9) ? 0 : planted ? 5 : 1 + upTo(4); n > 0; n--) tellStone();
    if (lengthy) same("way 0", x.way(0), o.fresh().way(0));
    if (planted) same("rise 9", x.rise(9), o.fresh().rise(9));
    else if (steady && coin()) same("rise 1", x.rise(1), o.fresh().rise(1));
    boolean busy = oneOf(3);
    if (steady) {
      for (int n = 1 + upTo(3); n > 0; n--) tellName();
      for (int n = 0; n < 20; n++) ask();
      for (int n = 0; n < 12; n++) { act(); ask(); ask(); ask(); }
      if (planted)
        for (int n = 0; n < 20; n++) {
          same("guess " + n, x.guess(n, n / 5, n % 5), o.fresh().guess(n, n / 5, n % 5));
          if (oneOf(2)) ask();
        }
      for (int n = 0; n < 20; n++) same("undo", x.undo(), o.fresh().undo());
      for (int n = 0; n < 20; n++) ask();
    }
    while (!full()) {
      switch (by.nextInt(40)) {
        case 0: if (oneOf(15)) tellForms(); break;
        case 1: if (oneOf(3)) tellStone(); break;
        case 2: case 3: tellName(); break;
        case 4: if (oneOf(3)) overfeed(); break;
        case 5: case 6: case 7: case 8: case 9: case 10: for (int n = 0; n < (busy ? 8 : 2); n++) act(); break;
        default: for (int n = 0; n < 3; n++) ask();
      }
    }
  }

  public static void main(String[] args) {
    long calls = 0;
    for (int seed = 1; seed <= RUNS && wrong < 5; seed++) {
      OracleRuns r = new OracleRuns(seed);
      r.run();
      calls += r.calls.size();
    }
    System.out.println(wrong == 0 ? calls + " answers are as the Oracle's" : wrong + " runs went wrong");
    if (wrong != 0) System.exit(1);
  }
}
