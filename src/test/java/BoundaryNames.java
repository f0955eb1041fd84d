import java.util.ArrayList;
import java.util.Collections;
import java.util.List;
import java.util.Random;

/** Boundary cases of promises 33 to 39: NAMES and the WORDS that FIT, WAYS, TESTS, ACTS undone, and counts. */
final class BoundaryNames extends Bench {
  private static UnreadSigns withNames(UnreadSigns x, String... names) {
    for (String n : names) if (name(x, n) < 0) throw new IllegalStateException("name " + n);
    return x;
  }

  // ---- promise 33

  @Says("A WORD of the LEXICON FITS a NAME, if it has as many SIGNS as that has SYLLABLES")
  static void promise33_asManySigns() {
    UnreadSigns x = withNames(rows(9, "a/ab/abc/abcdefg", "abcdef"), "pate", "pateki", "patekimonurule");
    same("lexicon", lexicon(x), "a1 ab1 abc1 abcdef1 abcdefg1");
    same("two", fitting(x, 0), "1");
    same("three", fitting(x, 1), "2");
    same("seven", fitting(x, 2), "4");
  }

  @Says("one SIGN stands just for one SYLLABLE in it and one SYLLABLE for one SIGN")
  static void promise33_oneForOne() {
    UnreadSigns x = withNames(rows(4, "aab/aba/abb/abc", "aaa"), "papate", "patepa", "patete", "pateki");
    same("lexicon", lexicon(x), "aaa1 aab1 aba1 abb1 abc1");
    for (int n = 0; n < 4; n++) same("name " + n, fitting(x, n), "" + (n + 1));
    UnreadSigns y = withNames(rows(4, "aab/aba/abb/abc", "aaa"), "papapa", "papape");
    same("all one", fitting(y, 0), "0");
    same("one consonant is not one SYLLABLE", fitting(y, 1), "1");
    UnreadSigns z = withNames(rows(9, "abcdefa/abcdefg"), "patekimonurupa", "patekimonurulu");
    same("the first and the last of seven", fitting(z, 0), "0");
    same("all unlike", fitting(z, 1), "1");
  }

  @Says("and no KNOWN consonant or vowel of its SIGNS is another one.")
  static void promise33_noKnownIsAnother() {
    UnreadSigns x = withNames(rows(6, "ab/cd"), "pate");
    same("nothing KNOWN", fitting(x, 0), "0 1");
    x.guess(0, 0, 0);
    same("KNOWN as it is", fitting(x, 0), "0 1");
    x.guess(0, 1, 0);
    same("another consonant", fitting(x, 0), "1");
    x.guess(0, 0, 1);
    same("another vowel", fitting(x, 0), "1");
    x.guess(0, -1, -1);
    x.guess(3, 2, 1);
    same("of the last SIGN", fitting(x, 0), "0");
    x.guess(3, -1, -1);
    x.clue(0, 5, false);
    x.guess(5, 2, 0);
    same("a consonant alone", fitting(x, 0), "1");
    x.guess(5, 0, 4);
    same("a consonant alone, as it is", fitting(x, 0), "0 1");
    x.clue(2, 5, true);
    same("a vowel alone", fitting(x, 0), "0");
  }

  @Says("How many WORDS of the LEXICON FIT a NAME (k NONE), the k-th of them (as a WORD of the LEXICON). NONE without these.")
  static void promise33_fewerWordsThanThereWere() {
    UnreadSigns x = withNames(rows(6, "ab/cd"), "pate");
    same("both", fitting(x, 0) + ", " + waysOf(x), "0 1, 2: 0");
    x.alike(0, 2, true);
    x.alike(1, 3, true);
    same("they are one WORD now", lexicon(x), "ab2");
    due("how many", x.fits(0, -1), 1);
    due("the first", x.fits(0, 0), 0);
    due("no other one", x.fits(0, 1), -1);
    same("WAYS", waysOf(x), "1: 0");
    x.undo();
    x.undo();
    same("both again", fitting(x, 0) + ", " + waysOf(x), "0 1, 2: 0");
  }

  @Says("How many WORDS of the LEXICON FIT a NAME (k NONE), the k-th of them (as a WORD of the LEXICON). NONE without these.")
  static void promise33_withoutThese() {
    UnreadSigns x = withNames(rows(6, "ab/cd/e"), "pate", "pateki");
    due("how many", x.fits(0, -1), 2);
    due("the first", x.fits(0, 0), 0);
    due("the last", x.fits(0, 1), 1);
    due("none FIT", x.fits(1, -1), 0);
    due("the first of none", x.fits(1, 0), -1);
    for (int k : new int[] {-2, 2, 3, 119, 120, Integer.MAX_VALUE, Integer.MIN_VALUE}) due("k " + k, x.fits(0, k), -1);
    for (int n : new int[] {-1, -2, 2, 3, 4, 5, Integer.MAX_VALUE, Integer.MIN_VALUE}) {
      due("name " + n, x.fits(n, -1), -1);
      due("name " + n, x.fits(n, 0), -1);
    }
    due("no WORDS", withNames(new UnreadSigns(), "pate").fits(0, -1), 0);
    UnreadSigns z = withNames(longLexicon(), "patina", "patekimonuruli");
    due("24 of 48", z.fits(0, -1) * 10000 + z.fits(0, 0) * 100 + z.fits(0, 23), 242447);
    due("no 25th", z.fits(0, 24), -1);
    due("no NAMES", rows(6, "ab").fits(0, -1), -1);
    UnreadSigns y = withNames(rows(6, "ab"), "pate", "peta", "pita", "pota");
    due("the last NAME", y.fits(3, -1) * 10 + y.fits(3, 0), 10);
  }

  // ---- promise 34

  @Says({"HITS: twos of a WORD and a NAME that FIT, consonants and vowels of all its SIGNS being KNOWN.", "int hits(): HITS."})
  static void promise34_allBeingKnown() {
    due("nothing", new UnreadSigns().hits(), 0);
    UnreadSigns x = withNames(rows(6, "ab/abc"), "pate", "pateki");
    due("they FIT", x.fits(0, -1) * 10 + x.fits(1, -1), 11);
    due("nothing KNOWN", x.hits(), 0);
    x.guess(0, 0, 0);
    due("one of two KNOWN", x.hits(), 0);
    x.clue(1, 4, false);
    x.guess(4, 1, 4);
    due("a consonant alone is KNOWN of b", x.hits(), 0);
    x.clue(1, 5, true);
    x.guess(5, 9, 1);
    due("both are KNOWN of b", x.hits(), 1);
    x.guess(2, 2, 2);
    due("all are KNOWN", x.hits(), 2);
    x.guess(2, 2, 3);
    due("another vowel", x.hits(), 1);
    x.guess(0, 3, 0);
    due("another consonant", x.hits(), 0);
  }

  @Says("HITS: twos of a WORD and a NAME that FIT")
  static void promise34_thatFit() {
    UnreadSigns x = withNames(rows(6, "ab/cb"), "pate");
    x.guess(0, 0, 0);
    x.guess(1, 1, 1);
    x.guess(2, 0, 0);
    due("two WORDS, one NAME", x.hits(), 2);
    UnreadSigns y = withNames(rows(6, "ab/bc/ab/ab"), "pate", "teki", "sosoke");
    y.guess(0, 0, 0);
    y.guess(1, 1, 1);
    y.guess(2, 2, 2);
    due("two WORDS, two NAMES", y.hits(), 2);
    name(y, "pateki");
    due("another NAME, none of its length", y.hits(), 2);
    UnreadSigns w = rows(6, "ab");
    w.guess(0, 0, 0);
    w.guess(1, 1, 1);
    due("no NAMES", w.hits(), 0);
    name(w, "pate");
    due("a NAME that is told later", w.hits(), 1);
    forms(w, "");
    due("no WORDS", w.hits(), 0);
    UnreadSigns z = withNames(rows(6, "ab"), "papa");
    z.guess(0, 0, 0);
    z.guess(1, 0, 0);
    due("one SYLLABLE for two SIGNS", z.hits(), 0);
  }

  // ---- promise 35

  @Says("WAYS: each NAME gets a WORD that FITS it, no two the same")
  static void promise35_noTwoTheSame() {
    UnreadSigns x = withNames(rows(6, "ab"), "pate");
    same("one NAME", waysOf(x), "1: 0");
    name(x, "kimo");
    same("two NAMES, one WORD", waysOf(x), "0: -2 -2");
    UnreadSigns y = withNames(rows(6, "ab/cd"), "pate", "kimo");
    same("two NAMES, two WORDS", waysOf(y), "2: 0 1");
    y.guess(0, 2, 2);
    same("ab FITS kimo alone", waysOf(y), "1: 1 0");
    y.guess(0, 9, 4);
    same("ab FITS none", waysOf(y), "0: -2 -2");
  }

  @Says("so that of all together one SIGN stands for one SYLLABLE and one SYLLABLE for one SIGN")
  static void promise35_ofAllTogether() {
    same("one SIGN for two SYLLABLES", waysOf(withNames(rows(6, "ab/ca"), "pate", "kilo")), "0: -2 -2");
    same("one SYLLABLE for two SIGNS", waysOf(withNames(rows(6, "ab/cd"), "pate", "paki")), "0: -2 -2");
    same("a SIGN and a SYLLABLE that both have", waysOf(withNames(rows(6, "ab/cb"), "pate", "kate")), "2: 0 1");
    same("the first and the last", waysOf(withNames(rows(6, "ab/ca"), "pate", "kipa")), "1: 0 1");
    same("the first and the third NAME", waysOf(withNames(rows(6, "ab/cd/ef"), "pate", "kimo", "pano")), "0: -2 -2 -2");
  }

  @Says("and SIGNS of one LINE have one consonant, SIGNS of one FILE one vowel (KNOWN ones, too).")
  static void promise35_linesAndFiles() {
    UnreadSigns x = withNames(rows(6, "ab/cd"), "pate", "poki");
    same("no CLUES", waysOf(x), "2: 0 1");
    x.clue(0, 2, false);
    same("p and p", waysOf(x), "2: 0 1");
    x.clue(1, 3, false);
    same("t and k", waysOf(x), "0: -2 -2");
    x.undo();
    x.clue(0, 2, true);
    same("a and o", waysOf(x), "0: -2 -2");
    UnreadSigns y = withNames(rows(6, "ab/cd"), "pate");
    y.clue(0, 1, false);
    same("of one LINE within a WORD", waysOf(y), "1: 1");
    y.clue(2, 3, true);
    same("of one FILE within a WORD", waysOf(y), "0: -2");
    UnreadSigns z = withNames(rows(6, "ab/cd"), "pate");
    z.clue(0, 5, false);
    z.guess(5, 3, 3);
    same("a KNOWN consonant of its LINE", waysOf(z), "1: 1");
    z.clue(3, 5, true);
    same("a KNOWN vowel of its FILE", waysOf(z), "0: -2");
    z.guess(5, 0, 1);
    same("as they are KNOWN", waysOf(z), "2: 0");
  }

  /** 24 WORDS of three SIGNS, eight of them ahead of 24 WORDS of seven SIGNS, the others behind these. */
  private static UnreadSigns atBothEnds(Random by) {
    String[] stones = new String[6];
    for (int n = 0; n < 24; n++) {
      char first = n < 8 ? (char) ('a' + n % 5) : (char) ('m' + n % 8), second = first, third = first;
      while (second == first) second = (char) ('a' + by.nextInt(20));
      while (third == first || third == second) third = (char) ('a' + by.nextInt(20));
      String row = "" + (n < 12 ? 'j' : 'k') + (char) ('a' + n % 12) + "abcde" + first + second + third;
      stones[n / 4] = n % 4 == 0 ? row : stones[n / 4] + "/" + row;
    }
    return rows(20, stones);
  }

  /** Whether six unlike SYLLABLES can stand for these letters, by their LINES and FILES. */
  private static boolean together(String letters, String lines, String files, String syllables) {
    for (int i = 0; i < 6; i++)
      for (int j = 0; j < i; j++) {
        int one = letters.charAt(i) - 'a', other = letters.charAt(j) - 'a';
        if (one == other) return false;
        if (lines.charAt(one) == lines.charAt(other) && syllables.charAt(2 * i) != syllables.charAt(2 * j)) return false;
        if (files.charAt(one) == files.charAt(other) && syllables.charAt(2 * i + 1) != syllables.charAt(2 * j + 1)) return false;
      }
    return true;
  }

  @Says("WAYS: each NAME gets a WORD that FITS it, no two the same")
  static void promise35_amongManyWords() {
    for (int seed = 1; seed <= 5; seed++) {
      UnreadSigns x = withNames(atBothEnds(new Random(seed)), "patina", "pemolu");
      String[] words = lexicon(x).replaceAll("\\d", "").split(" ");
      String lines = places(x, false), files = places(x, true);
      int ways = 0, first = -1;
      for (int one = 0; one < words.length; one++)
        for (int other = 0; other < words.length; other++) {
          boolean right = one != other && words[one].length() == 3 && words[other].length() == 3;
          if (right && together(words[one] + words[other], lines, files, "patinapemolu") && ways++ == 0) first = 100 * one + other;
        }
      due("more than 40 WORDS", words.length > 40, true);
      due("WAYS", x.ways(-1), ways);
      due("the first", 100 * x.ways(0) + x.ways(1), first);
    }
  }

  /** Whether the SIGNS of these letters may stand for these SYLLABLES, all together, by their LINES and FILES. */
  private static boolean mayStand(String letters, String syllables, String lines, String files) {
    for (int i = 0; i < letters.length(); i++)
      for (int j = 0; j < i; j++) {
        int one = letters.charAt(i) - 'a', other = letters.charAt(j) - 'a';
        boolean consonant = syllables.charAt(2 * i) == syllables.charAt(2 * j);
        boolean vowel = syllables.charAt(2 * i + 1) == syllables.charAt(2 * j + 1);
        if ((one == other) != (consonant && vowel)) return false;
        if (lines.charAt(one) == lines.charAt(other) && !consonant) return false;
        if (files.charAt(one) == files.charAt(other) && !vowel) return false;
      }
    return true;
  }

  /** All WAYS as rows of WORDS, the first one first: each NAME tries each WORD. */
  private static List<List<Integer>> allWays(UnreadSigns x, String[] names) {
    String[] words = lexicon(x).replaceAll("\\d", "").split(" ");
    String lines = places(x, false), files = places(x, true);
    List<List<Integer>> ways = List.of(List.of());
    StringBuilder syllables = new StringBuilder();
    for (String name : names) {
      syllables.append(name);
      List<List<Integer>> more = new ArrayList<>();
      for (List<Integer> way : ways)
        for (int k = 0; k < words.length; k++) {
          if (way.contains(k) || words[k].length() * 2 != name.length()) continue;
          List<Integer> longer = new ArrayList<>(way);
          longer.add(k);
          StringBuilder letters = new StringBuilder();
          for (int word : longer) letters.append(words[word]);
          if (mayStand(letters.toString(), syllables.toString(), lines, files)) more.add(longer);
        }
      ways = more;
    }
    return ways;
  }

  /** WORDS of two SIGNS that end as another one begins; two of them share a beginning, so there is a CLUE, too. */
  private static String wordsInRings(Random by) {
    List<Integer> behind = new ArrayList<>();
    for (int i = 0; i < 12; i++) behind.add(i);
    Collections.shuffle(behind, by);
    StringBuilder words = new StringBuilder("am");
    for (int i = 0; i < 12; i++) {
      words.append(' ').append((char) ('a' + i)).append((char) ('a' + behind.get(i)));
    }
    return words.toString();
  }

  @Says("so that of all together one SIGN stands for one SYLLABLE and one SYLLABLE for one SIGN")
  static void promise35_eachTwoOfFourNames() {
    // NAMES of like length: which WORDS go together hangs on which of both NAMES has which of both WORDS.
    String[][] told = {{"pate", "tepa", "pako"}, {"pate", "kote", "kosu"}, {"pate", "kimo", "moki"},
        {"pate", "kote", "kosu", "pasu"}, {"pate", "teko", "kosu", "sumi"}, {"pate", "kimo", "mopa", "kite"}};
    int some = 0;
    for (int seed = 1; seed <= 40; seed++)
      for (String[] names : told) {
        UnreadSigns x = rowsOfNames(wordsInRings(new Random(seed)), names);
        List<List<Integer>> ways = allWays(x, names);
        due("WAYS, " + seed, x.ways(-1), Math.min(999, ways.size()));
        for (int n = 0; n < names.length; n++) due("the first, " + seed, x.ways(n), ways.isEmpty() ? -2 : ways.get(0).get(n));
        some += ways.isEmpty() ? 0 : 1;
      }
    due("some of them have WAYS", some >= 20, true);
  }

  @Says("999 at most are told.")
  static void promise35_999AtMost() {
    UnreadSigns x = withNames(rows(20, "ab/cd/ef/gh", "ij/kl/mn/op", "qr/st"), "pate", "kimo", "nuse");
    same("720", waysOf(x), "720: 0 1 2");
    name(x, "wajo");
    same("5040, 999 are told", waysOf(x), "999: 0 1 2 3");
    // WORDS that share SIGNS, and so CLUES: counted outside the program, without a bound.
    due("998", rowsOfNames("ap ec ej gs hf ho hq ji kg ld mk pg sl tf", "pate", "kimo", "nuse").ways(-1), 998);
    due("999", rowsOfNames("ai bc bt di hq jh kl kt mj nc nf og rd sp tq", "kepu", "koka", "nope").ways(-1), 999);
    due("1000, 999 are told", rowsOfNames("aq bt ci do ec fl hc jg ks me ph pn rh", "pate", "kimo", "nuse").ways(-1), 999);
  }

  /** Each WORD is a ROW; of four a STONE. */
  private static UnreadSigns rowsOfNames(String words, String... names) {
    String[] word = words.split(" "), stones = new String[(word.length + 3) / 4];
    for (int i = 0; i < word.length; i++) stones[i / 4] = i % 4 == 0 ? word[i] : stones[i / 4] + "/" + word[i];
    return withNames(rows(20, stones), names);
  }

  @Says("The first: NAME 0 has the first WORD of the LEXICON that can be, then NAME 1, and so on.")
  static void promise35_theFirst() {
    UnreadSigns x = withNames(rows(9, "ab/cd/ef"), "pate", "kimo");
    same("the first two", waysOf(x), "6: 0 1");
    x.guess(2, 0, 0);
    same("cd FITS pate alone", waysOf(x), "4: 0 2");
    x.guess(4, 0, 0);
    same("ef FITS pate alone, too: pa is of one SIGN", waysOf(x), "2: 1 0");
    UnreadSigns y = withNames(rows(9, "ab/cd/ef"), "pate", "kimo", "nuse");
    y.guess(0, 4, 4);
    same("ab FITS nuse alone", waysOf(y), "2: 1 2 0");
    UnreadSigns z = withNames(longLexicon(), "patina");
    for (int f = 0; f < 4; f++) z.guess('l' - 'a' - f, f, 0);
    // i to l are of one FILE; l is pa: the WORDS 42 to 47.
    same("of 48 WORDS the last six", waysOf(z), "6: 42");
    name(z, "patone");
    // lms lnt los lpt lqs lrt: na and ne are s and t, one of each.
    same("twos of them", waysOf(z), "18: 42 43");
  }

  @Says("WAYS, how many (name NONE; 1 without NAMES)")
  static void promise35_withoutNames() {
    due("a new one", new UnreadSigns().ways(-1), 1);
    due("WORDS, no NAMES", rows(6, "ab").ways(-1), 1);
    due("NAMES, no WORDS", withNames(new UnreadSigns(), "pate").ways(-1), 0);
    due("one", withNames(rows(6, "ab"), "pate").ways(-1), 1);
  }

  @Says("the WORD that a NAME has in the first one; -2: there is none. NONE without these.")
  static void promise35_withoutThese() {
    UnreadSigns x = withNames(rows(6, "ab"), "pate", "pateki");
    due("how many", x.ways(-1), 0);
    due("there is none", x.ways(0), -2);
    due("there is none", x.ways(1), -2);
    for (int n : new int[] {-2, -3, 2, 3, 4, Integer.MAX_VALUE, Integer.MIN_VALUE}) due("name " + n, x.ways(n), -1);
    due("no NAMES", rows(6, "ab").ways(0), -1);
    UnreadSigns y = withNames(rows(6, "ab"), "pate");
    due("it has one", y.ways(0), 0);
    due("name 1", y.ways(1), -1);
  }

  // ---- promise 36

  @Says({"x becomes a number: what it was", "x (0 to 2147483647; 0 at first)"})
  static void promise36_whatItWas() {
    UnreadSigns x = new UnreadSigns();
    due("0 at first", x.count(16), 0);
    due("the most", x.draws(2147483647), 0);
    due("the same again", x.draws(2147483647), 2147483647);
    due("the least", x.draws(0), 2147483647);
    due("no ACT", x.count(15), 0);
  }

  @Says("what it was; NONE, and nothing happens, below 0.")
  static void promise36_below0() {
    for (int n : new int[] {-1, -2, Integer.MIN_VALUE}) refused("draws " + n, Bench::desk, x -> x.draws(n), -1);
  }

  // ---- promise 37

  /** What m times of k values changed about come to, worked out from the document alone: where each value is then. */
  private static List<int[]> changedAbout(long x, int k, int m) {
    List<int[]> all = new ArrayList<>();
    for (int n = 0; n < m; n++) {
      int[] at = new int[k];
      for (int i = 0; i < k; i++) at[i] = i;
      for (int i = k - 1; i >= 1; i--) {
        x = (x * 1103515245L + 12345L) % 2147483648L;
        int with = (int) (x / 65536 % (i + 1)), kept = at[i];
        at[i] = at[with];
        at[with] = kept;
      }
      all.add(at);
    }
    return all;
  }

  private static final int[] SEEDS = {0, 1, 2, 65535, 65536, 99999999, 1073741824, 2147483646, 2147483647};

  @Says({"TEST of m (1 to 50): m times", "TEST; NONE without these."})
  static void promise37_1To50() {
    UnreadSigns x = new UnreadSigns();
    due("1", x.test(1), 1);
    due("50", x.test(50), 50);
    for (int m : new int[] {0, -1, 51, 52, Integer.MAX_VALUE, Integer.MIN_VALUE}) refused("test " + m, Bench::desk, y -> y.test(m), -1);
  }

  @Says({"of the SIGNS of which consonant and vowel are KNOWN (by their order, k of them), from the last one on down to the second",
      "a DRAW of as many as there are from the first up to it tells with which of these it changes both (and no others are KNOWN then); HITS so."})
  static void promise37_changedAbout() {
    // Twenty WORDS of two SIGNS and twenty SYLLABLES: a HIT is there now, others come by chance.
    UnreadSigns x = withNames(rows(20, "ab/cd/ef/gh", "ij/kl/mn/op", "qr/st/ac/bd", "eg/fh/ik/jl", "mo/np/qs/rt"), "pate", "tape", "kiki", "kepi");
    String[] words = "ab cd ef gh ij kl mn op qr st ac bd eg fh ik jl mo np qs rt".split(" ");
    String[] names = {"pate", "tape", "kiki", "kepi"};
    String[] values = new String[20];
    for (int f = 0; f < 20; f++) {
      int c = f % 4 == 0 ? 0 : f % 10, v = f % 5;
      x.guess(f, c, v);
    }
    for (int f = 0; f < 20; f++) values[f] = "" + "ptkmnrlswj".charAt(x.known(f, 0)) + "aeiou".charAt(x.known(f, 1));
    int hits = hitsOf(words, names, values);
    due("HITS", x.hits(), hits);
    for (int seed : SEEDS) {
      x.draws(seed);
      int due = 0;
      for (int[] at : changedAbout(seed, 20, 50)) {
        String[] changed = new String[20];
        for (int i = 0; i < 20; i++) changed[i] = values[at[i]];
        if (hitsOf(words, names, changed) >= hits) due++;
      }
      due("test 50 from " + seed, x.test(50), due);
    }
  }

  private static int hitsOf(String[] words, String[] names, String[] values) {
    int n = 0;
    for (String w : words)
      for (String name : names) {
        String one = name.substring(0, 2), other = name.substring(2);
        boolean shape = (w.charAt(0) == w.charAt(1)) == one.equals(other);
        if (shape && values[w.charAt(0) - 'a'].equals(one) && values[w.charAt(1) - 'a'].equals(other)) n++;
      }
    return n;
  }

  @Says("(by their order, k of them)")
  static void promise37_noneOneAndTwoSigns() {
    UnreadSigns x = withNames(rows(6, "ab"), "pate");
    due("none", x.test(50), 50);
    x.guess(0, 0, 0);
    due("one: no HITS", x.test(50), 50);
    x.guess(1, 1, 1);
    // Between both a SIGN of which a consonant alone is KNOWN: it is none of them.
    x.clue(5, 3, false);
    for (int seed : SEEDS) {
      x.draws(seed);
      int stays = 0;
      for (int[] at : changedAbout(seed, 2, 50)) stays += at[0] == 0 ? 1 : 0;
      due("two from " + seed, x.test(50), stays);
    }
  }

  @Says("(and no others are KNOWN then)")
  static void promise37_noOthers() {
    UnreadSigns x = withNames(rows(6, "ab/ac"), "pate");
    x.clue(1, 3, false);
    x.guess(3, 1, 4);
    x.guess(0, 0, 0);
    x.guess(2, 1, 1);
    same("of b a consonant alone is KNOWN", known(x), "pa t- te tu -- --");
    due("HITS", x.hits(), 1);
    for (int seed : SEEDS) {
      x.draws(seed);
      int stays = 0;
      for (int[] at : changedAbout(seed, 3, 50)) stays += at[0] == 0 && at[1] == 1 ? 1 : 0;
      due("three from " + seed, x.test(50), stays);
    }
  }

  @Says("How many of m have as many HITS at least as there are.")
  static void promise37_asManyAtLeast() {
    UnreadSigns x = withNames(rows(6, "ab/ba"), "pate");
    x.guess(0, 0, 0);
    x.guess(1, 1, 1);
    due("HITS", x.hits(), 1);
    for (int m : new int[] {1, 2, 49, 50}) due("ab or ba, always one: " + m, x.test(m), m);
    UnreadSigns y = withNames(rows(6, "ab"), "tepa");
    y.guess(0, 0, 0);
    y.guess(1, 1, 1);
    due("no HITS", y.hits(), 0);
    due("none at least", y.test(50), 50);
  }

  @Says("Each time from what is KNOWN now on.")
  static void promise37_fromWhatIsKnown() {
    UnreadSigns x = withNames(rows(6, "abc"), "pateki");
    x.guess(0, 0, 0);
    x.guess(1, 1, 1);
    x.guess(2, 2, 2);
    for (int seed : SEEDS) {
      x.draws(seed);
      for (int m : new int[] {1, 2, 3, 50}) {
        int stays = 0;
        for (int[] at : changedAbout(seed, 3, m)) stays += at[0] == 0 && at[1] == 1 ? 1 : 0;
        due("test " + m + " from " + seed, x.test(m), stays);
      }
    }
    same("KNOWN as it was", known(x), "pa te ki -- -- --");
    due("HITS as they were", x.hits(), 1);
  }

  @Says({"becomes x * 1103515245 + 12345, of 2147483648 the rest; a DRAW of n is x / 65536, of n the rest",
      "(x stays as it was behind a TEST)"})
  static void promise37_draws() {
    UnreadSigns x = withNames(rows(6, "ab"), "pate");
    x.guess(0, 0, 0);
    x.guess(1, 1, 1);
    // From 0: 12345 / 65536 is 0, of 2 the rest 0: both change. From 1: 1103527590 / 65536 is 16838, even: both change.
    // From 2147483647: 1043980748 / 65536 is 15929, odd: both stay.
    int[] due = {0, 0, 1};
    int[] seeds = {0, 1, 2147483647};
    for (int i = 0; i < 3; i++) {
      x.draws(seeds[i]);
      due("a DRAW of 2 from " + seeds[i], x.test(1), due[i]);
      due("x stays", x.count(16), seeds[i]);
      due("the same again", x.test(1), due[i]);
    }
    refused("a TEST changes nothing", Bench::desk, y -> y.test(50) >= 0 ? 1 : 0, 1);
  }

  // ---- promise 38

  @Says({"ACTS: another LOOSE, WAY, RISE; ALIKE, APART (each is told, or told no more",
      "a CLUE by hand; a GUESS (another one of a FORM, or none)."})
  static void promise38_eachActIsUndone() {
    Call[] acts = {x -> x.loose(25), x -> x.loose(0), x -> x.way(1), x -> x.way(2), x -> x.rise(2), x -> x.rise(1),
        x -> x.alike(0, 2, true) ? 1 : -1, x -> x.alike(4, 5, false) ? 1 : -1, x -> x.alike(0, 1, true) ? 1 : -1,
        x -> x.apart(2, 3, true) ? 1 : -1, x -> x.apart(0, 1, false) ? 1 : -1, x -> x.apart(5, 4, true) ? 1 : -1,
        x -> x.clue(3, 5, true), x -> x.clue(3, 5, false),
        x -> x.guess(1, 9, 4), x -> x.guess(0, 9, 4), x -> x.guess(0, -1, -1), x -> x.guess(3, 4, 2)};
    for (int i = 0; i < acts.length; i++) {
      UnreadSigns x = desk();
      int before = x.count(15);
      due("act " + i, acts[i].on(x) >= 0, true);
      due("ACTS", x.count(15), before + 1);
      due("undone", x.undo(), before);
      same("all as it was ahead of act " + i, picture(x), picture(desk()));
    }
  }

  @Says("The last 20 can be UNDONE, the last first.")
  static void promise38_theLast20() {
    UnreadSigns x = new UnreadSigns();
    for (int n = 3; n <= 22; n++) x.loose(n);
    due("20 ACTS", x.count(15), 20);
    for (int n = 19; n >= 0; n--) {
      due("how many more", x.undo(), n);
      due("LOOSE", x.count(6), n == 0 ? 2 : n + 2);
    }
    due("none", x.undo(), -1);
    for (int n = 3; n <= 23; n++) x.loose(n);
    due("of 21 the last 20", x.count(15), 20);
    for (int n = 19; n >= 0; n--) due("how many more", x.undo(), n);
    due("none", x.undo(), -1);
    due("the first of 21 stays", x.count(6), 3);
    for (int n = 0; n < 45; n++) x.loose(n % 2 == 0 ? 10 : 3);
    due("of 45 the last 20", x.count(15), 20);
    for (int n = 0; n < 20; n++) x.undo();
    due("the 25th stays", x.count(6), 10);
  }

  @Says("The last 20 can be UNDONE, the last first.")
  static void promise38_theLast20OfUnlikeKinds() {
    UnreadSigns x = spaced(6);
    x.loose(0);
    x.guess(5, 9, 4);
    x.way(1);
    String ahead = seen(x);
    for (int n = 0; n < 5; n++) {
      x.alike(0, 5, n % 2 == 0);
      x.guess(n, n, n);
      x.clue(n, n == 4 ? 1 : n + 1, n % 2 == 0);
      x.rise(n + 3);
    }
    due("of 23 the last 20", x.count(15), 20);
    for (int n = 19; n >= 0; n--) due("how many more", x.undo(), n);
    same("all as it was ahead of them", seen(x), ahead);
    due("none", x.undo(), -1);
  }

  private static String seen(UnreadSigns x) {
    return counts(x, 1, 6, 7, 8, 10, 11, 12, 13, 14) + " " + signs(x) + " " + known(x);
  }

  @Says("a CLUE by hand; a GUESS (another one of a FORM, or none).")
  static void promise38_theOnlyClueAndTheOnlyGuess() {
    UnreadSigns x = spaced(6);
    x.clue(0, 1, true);
    due("the only CLUE", x.undo(), 0);
    same("none is left", counts(x, 14, 10, 11) + " " + x.clues(true), "0 6 6 0");
    due("it can be told again", x.clue(1, 0, true), 1);
    UnreadSigns y = withNames(rows(6, "ab"), "pate");
    y.guess(0, 0, 0);
    y.guess(1, 1, 1);
    due("HITS", y.hits(), 1);
    y.undo();
    due("HITS behind it", y.hits(), 0);
    y.guess(1, 1, 1);
    due("HITS again", y.hits(), 1);
    y.undo();
    due("a TEST behind it", y.test(50), 50);
    y.undo();
    same("no GUESS is left", counts(y, 13) + " " + known(y), "0 -- -- -- -- -- --");
  }

  @Says("STONES and FORMS that are told make that none can be UNDONE.")
  static void promise38_stonesAndForms() {
    UnreadSigns x = desk();
    due("a STONE", stone(x, "ab"), 2);
    due("none", x.undo(), -1);
    due("ACTS", x.count(15), 0);
    same("what was told stays", counts(x, 6, 7, 8, 13, 14), "1 0 9 2 2");
    x.loose(9);
    due("acts go on", x.undo(), 0);
    UnreadSigns y = desk();
    due("FORMS", forms(y, filled(0, 3)), 2);
    due("none", y.undo(), -1);
    UnreadSigns z = desk();
    int acts = z.count(15);
    stone(z, "?");
    forms(z, "?");
    name(z, "pipo");
    z.draws(9);
    z.test(3);
    due("a FAULT, a NAME, x, a TEST are no matter", z.count(15), acts);
    due("undone", z.undo(), acts - 1);
    due("no FORMS at all", forms(z, ""), 0);
    due("none", z.undo(), -1);
  }

  @Says("The last ACT is UNDONE: how many more can be; NONE, and nothing happens, if none can.")
  static void promise38_ifNoneCan() {
    due("a new one", new UnreadSigns().undo(), -1);
    refused("none", () -> withNames(spaced(6, "abc/abd"), "kato"), UnreadSigns::undo, -1);
    UnreadSigns x = spaced(6);
    x.loose(3);
    due("how many more", x.undo(), 0);
    due("none", x.undo(), -1);
    due("undoing is no ACT", x.count(15), 0);
  }

  // ---- promise 39

  @Says({"What 0: FORMS, 1: SIGNS, 2: STONES, 3: ROWS, all, 4: SIGNS in all ROWS, together, 5: WORDS, all, 6: LOOSE, 7: WAY, 8: RISE, 9: NAMES",
      "10: LINES, 11: FILES, 12: SIGNS that are DISPUTED, 13: GUESSES, 14: CLUES by hand, 15: ACTS that can be UNDONE, 16: x, 17: bytes of the TAPE."})
  static void promise39_leastAndMost() {
    int[] all = {0, 1, 2, 3, 4, 5, 6, 7, 8, 9, 10, 11, 12, 13, 14, 15, 16, 17};
    same("a new one", counts(new UnreadSigns(), all), "0 0 0 0 0 0 2 3 2 0 0 0 0 0 0 0 0 0");
    String row = "abcdefghij", other = "klmnopqrst";
    String stone = row + "/" + row + "/" + other + "/" + other;
    UnreadSigns x = withNames(close(20, stone, stone, stone, stone, stone, stone), "pate", "peta", "pita", "pota");
    x.loose(25);
    x.way(2);
    x.rise(9);
    x.draws(2147483647);
    same("all FORMS are one SIGN", counts(x, 0, 1, 2, 3, 4, 5, 6, 7, 8, 9, 10, 11), "20 1 6 24 240 48 25 2 9 4 1 1");
    x.loose(0);
    for (int f = 0; f < 20; f++) x.guess(f, 1, 1);
    for (int n = 0; n < 12; n++) x.clue(n, n + 1, false);
    tell(x, " ".repeat(300));
    same("all are SIGNS", counts(x, all), "20 20 6 24 240 48 0 2 9 4 8 20 20 20 12 20 2147483647 300");
  }

  @Says("17: bytes of the TAPE. NONE for others.")
  static void promise39_others() {
    UnreadSigns x = desk();
    for (int w : new int[] {-1, -2, 18, 19, 20, Integer.MAX_VALUE, Integer.MIN_VALUE}) due("count " + w, x.count(w), -1);
    due("a new one", new UnreadSigns().count(18), -1);
  }
}
