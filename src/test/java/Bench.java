/** What tests are made with: objects, texts on the TAPE, and answers that are due. */
abstract class Bench {
  static int wrong = 0;
  static int right = 0;
  /** What is tested now. */
  static String now = "";

  interface Maker { UnreadSigns make(); }
  interface Call { long on(UnreadSigns x); }

  static void due(String what, long got, long want) {
    if (got == want) { right++; return; }
    wrong++;
    System.out.println(now + ": " + what + " answered " + got + ", due is " + want);
  }

  static void due(String what, boolean got, boolean want) { due(what, got ? 1 : 0, want ? 1 : 0); }

  static void same(String what, String got, String want) {
    if (got.equals(want)) { right++; return; }
    wrong++;
    System.out.println(now + ": " + what + " is " + got + ", due is " + want);
  }

  /** The call answers so, and all is behind it as if it had not been made. */
  static void refused(String what, Maker maker, Call call, long want) {
    UnreadSigns x = maker.make();
    due(what, call.on(x), want);
    same("all behind " + what, picture(x), picture(maker.make()));
  }

  // ---- texts

  /** Puts a text on an empty TAPE. */
  static void tell(UnreadSigns x, String text) {
    x.end(0);
    for (int at = 0; at < text.length(); at += 20) {
      int[] n = new int[5];
      for (int i = 0; i < 20; i++) n[i / 4] = n[i / 4] << 8 | (at + i < text.length() ? text.charAt(at + i) : 0);
      x.feed(n[0], n[1], n[2], n[3], n[4]);
    }
    x.end(text.length());
  }

  static int forms(UnreadSigns x, String text) { tell(x, text); return x.forms(); }
  static int stone(UnreadSigns x, String text) { tell(x, text); return x.stone(); }
  static int name(UnreadSigns x, String text) { tell(x, text); return x.name(); }
  static int comes(UnreadSigns x, String text) { tell(x, text); return x.comes(); }
  static int next(UnreadSigns x, String text) { tell(x, text); return x.next(); }
  static int fault(int place, int kind) { return -2 - (8 * place + kind); }

  /** A FORM of so many dark places, row by row: UNLIKE of two of these is how many one has more. */
  static String filled(int dark) {
    StringBuilder b = new StringBuilder();
    for (int row = 0; row < 5; row++) {
      int here = Math.max(0, Math.min(5, dark - 5 * row));
      b.append(row == 0 ? "" : " ").append((1 << here) - 1);
    }
    return b.append(';').toString();
  }

  static String filled(int... dark) {
    StringBuilder b = new StringBuilder();
    for (int d : dark) b.append(filled(d));
    return b.toString();
  }

  /** Twenty FORMS, 211 bytes. */
  static String twenty() {
    StringBuilder b = new StringBuilder();
    for (int i = 1; i <= 20; i++) b.append(i).append(" 0 0 0 0;");
    return b.toString();
  }

  // ---- objects

  /** FORMS that are a SIGN each, till LOOSE is 3: UNLIKE is 3 times how far they are from one another. */
  static UnreadSigns spaced(int forms, String... stones) {
    StringBuilder b = new StringBuilder();
    for (int i = 0; i < forms; i++) b.append(filled(3 * i));
    return office(b, stones);
  }

  /** FORMS that are a SIGN each when LOOSE is 0, as it is here. */
  static UnreadSigns close(int forms, String... stones) {
    StringBuilder b = new StringBuilder();
    for (int i = 0; i < forms; i++) b.append(filled(i));
    UnreadSigns x = office(b, stones);
    x.loose(0);
    return x;
  }

  /** Each ROW is read to the right and is a WORD, if it has 7 SIGNS at most. */
  static UnreadSigns rows(int forms, String... stones) {
    UnreadSigns x = forms > 9 ? close(forms, stones) : spaced(forms, stones);
    x.way(0);
    x.rise(9);
    return x;
  }

  static UnreadSigns office(CharSequence forms, String... stones) {
    UnreadSigns x = new UnreadSigns();
    int n = forms(x, forms.toString());
    if (n < 0) throw new IllegalStateException("forms " + n);
    for (String s : stones) if (stone(x, s) < 0) throw new IllegalStateException("stone " + s);
    return x;
  }

  /** 48 WORDS: of each ROW seven SIGNS, a or b ahead, and three SIGNS, the first one higher than those. */
  static UnreadSigns longLexicon() {
    String[] stones = new String[6];
    for (int s = 0; s < 6; s++) {
      StringBuilder b = new StringBuilder();
      for (int r = 0; r < 4; r++) {
        int n = 4 * s + r;
        b.append(r > 0 ? "/" : "").append(n < 12 ? 'a' : 'b').append((char) ('c' + n % 12)).append("cdefg");
        b.append((char) ('i' + n / 6)).append((char) ('m' + n % 6)).append((char) ('s' + n % 2));
      }
      stones[s] = b.toString();
    }
    return rows(20, stones);
  }

  /** An object with something of all kinds, and nothing as it is at first. */
  static UnreadSigns desk() {
    UnreadSigns x = rows(6, "abc/abd", "eb/.fb");
    if (name(x, "kato") != 0 || name(x, "katoki") != 1) throw new IllegalStateException("names");
    x.loose(1);
    x.alike(4, 5, true);
    x.apart(0, 1, true);
    x.clue(0, 1, false);
    x.clue(1, 2, true);
    x.guess(0, 2, 0);
    x.guess(3, 4, 1);
    x.draws(5);
    return x;
  }

  // ---- answers

  /** The WORDS of the LEXICON, with how often they are. */
  static String lexicon(UnreadSigns x) {
    StringBuilder b = new StringBuilder();
    for (int k = 0, n = x.words(); k < n; k++) {
      if (k > 0) b.append(' ');
      for (int i = 0, length = x.word(k, 1); i < length; i++) b.append((char) ('a' + x.word(k, 2 + i)));
      b.append(x.word(k, 0));
    }
    return b.toString();
  }

  static String row(UnreadSigns x, int stone, int row) {
    StringBuilder b = new StringBuilder();
    for (int k = 0, n = x.read(stone, row, -1); k < n; k++) b.append((char) ('a' + x.read(stone, row, k)));
    return b.toString();
  }

  /** The SIGNS of all FORMS. */
  static String signs(UnreadSigns x) {
    StringBuilder b = new StringBuilder();
    for (int f = 0, n = x.count(0); f < n; f++) b.append((char) ('a' + x.sign(f)));
    return b.toString();
  }

  /** The TREE, each as UNLIKE and two letters. */
  static String tree(UnreadSigns x) {
    StringBuilder b = new StringBuilder();
    for (int k = 0; k < 20 && x.tree(k, 0) != -1; k++)
      b.append(k == 0 ? "" : " ").append(x.tree(k, 0)).append((char) ('a' + x.tree(k, 1))).append((char) ('a' + x.tree(k, 2)));
    return b.toString();
  }

  /** The LINES or FILES of all FORMS. */
  static String places(UnreadSigns x, boolean file) {
    StringBuilder b = new StringBuilder();
    for (int f = 0, n = x.count(0); f < n; f++) b.append((char) ('a' + x.place(f, file)));
    return b.toString();
  }

  /** What is KNOWN of each FORM: consonant, vowel, ! if it is DISPUTED. */
  static String known(UnreadSigns x) {
    StringBuilder b = new StringBuilder();
    for (int f = 0, n = x.count(0); f < n; f++) {
      int c = x.known(f, 0), v = x.known(f, 1);
      b.append(f == 0 ? "" : " ").append(c < 0 ? '-' : "ptkmnrlswj".charAt(c)).append(v < 0 ? '-' : "aeiou".charAt(v));
      b.append(x.known(f, 2) == 1 ? "!" : "");
    }
    return b.toString();
  }

  /** The WORDS that FIT a NAME. */
  static String fitting(UnreadSigns x, int name) {
    StringBuilder b = new StringBuilder();
    for (int k = 0, n = x.fits(name, -1); k < n; k++) b.append(k == 0 ? "" : " ").append(x.fits(name, k));
    return b.toString();
  }

  /** How many WAYS there are, and the WORDS of the first one. */
  static String waysOf(UnreadSigns x) {
    StringBuilder b = new StringBuilder().append(x.ways(-1));
    for (int n = 0, names = x.count(9); n < names; n++) b.append(n == 0 ? ": " : " ").append(x.ways(n));
    return b.toString();
  }

  static String counts(UnreadSigns x, int... whats) {
    StringBuilder b = new StringBuilder();
    for (int w : whats) b.append(b.length() == 0 ? "" : " ").append(x.count(w));
    return b.toString();
  }

  /** All that can be seen of a small object but UNLIKE and TREE; at last its ACTS are undone. */
  static String picture(UnreadSigns x) {
    StringBuilder b = new StringBuilder(counts(x, 0, 1, 2, 3, 4, 5, 6, 7, 8, 9, 10, 11, 12, 13, 14, 15, 16, 17));
    b.append('|').append(signs(x)).append('|').append(lexicon(x)).append('|');
    for (int s = 0, n = x.count(2); s < n; s++) for (int r = 0; x.read(s, r, -1) != -1; r++) b.append(row(x, s, r)).append('/');
    b.append('|').append(places(x, false)).append('|').append(places(x, true)).append('|').append(known(x)).append('|');
    for (int n = 0, names = x.count(9); n < names; n++) b.append(fitting(x, n)).append('/');
    b.append('|').append(waysOf(x)).append('|').append(x.hits()).append('|').append(x.test(9)).append('|');
    b.append(x.unlike(0, 1)).append(' ').append(x.unlike(0, 5));
    for (int undone = x.undo(); undone != -1; undone = x.undo())
      b.append('|').append(undone).append(' ').append(counts(x, 1, 6, 7, 8, 12, 13, 14)).append(' ').append(signs(x));
    return b.toString();
  }
}
