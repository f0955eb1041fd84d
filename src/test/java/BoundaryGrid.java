/** Boundary cases of promises 26 to 32: CLUES, LINES and FILES, CLASHES, GUESSES and what is KNOWN. */
final class BoundaryGrid extends Bench {
  private static final int[] NO_FORMS = {-1, -2, 6, 19, 20, 400, Integer.MAX_VALUE, Integer.MIN_VALUE};

  /** Twelve CLUES by hand: SIGNS 0 to 12 are of one LINE. */
  private static UnreadSigns twelve() {
    UnreadSigns x = close(20);
    for (int n = 0; n < 12; n++) x.clue(n, n + 1, false);
    return x;
  }

  /** The WORDS aa to at, ba, ca, da, ea: all SIGNS are of one LINE, a to e of one FILE. */
  private static UnreadSigns square() {
    String[] stones = new String[6];
    for (int s = 0; s < 5; s++) {
      char c = (char) ('a' + 4 * s);
      stones[s] = "a" + c + "/a" + (char) (c + 1) + "/a" + (char) (c + 2) + "/a" + (char) (c + 3);
    }
    stones[5] = "ba/ca/da/ea";
    return rows(20, stones);
  }

  private static String clash(UnreadSigns x) { return x.clash(0) + " " + x.clash(1) + " " + x.clash(2); }

  // ---- promise 26

  @Says("A CLUE by hand of two FORMS (of unlike SIGNS; file or line): how many CLUES by hand there are then")
  static void promise26_howManyThereAre() {
    UnreadSigns x = close(20);
    for (int n = 1; n <= 12; n++) due("clue " + n, x.clue(0, n, n % 2 == 0), n);
    due("CLUES by hand", x.count(14), 12);
    due("of LINES", x.clues(false), 6);
    due("of FILES", x.clues(true), 6);
    UnreadSigns y = close(20);
    due("the last FORM", y.clue(19, 0, true), 1);
    due("its FILE", y.place(19, true), 0);
    due("its LINE", y.place(19, false), 19);
  }

  @Says("NONE, and nothing happens, without these, if it is told by hand already")
  static void promise26_withoutThese() {
    for (boolean file : new boolean[] {true, false}) {
      for (int f : NO_FORMS) {
        refused("clue 0 " + f, Bench::desk, x -> x.clue(0, f, file), -1);
        refused("clue " + f + " 5", Bench::desk, x -> x.clue(f, 5, file), -1);
        refused("clue " + f + " " + f, Bench::desk, x -> x.clue(f, f, file), -1);
      }
      refused("one and the same FORM", Bench::desk, x -> x.clue(2, 2, file), -1);
      refused("two FORMS of one SIGN", Bench::desk, x -> x.clue(4, 5, file), -1);
      due("no FORMS", new UnreadSigns().clue(0, 1, file), -1);
    }
  }

  @Says("if it is told by hand already (of these FORMS, whichever first)")
  static void promise26_toldAlready() {
    refused("the LINE", Bench::desk, x -> x.clue(0, 1, false), -1);
    refused("the LINE, the other one first", Bench::desk, x -> x.clue(1, 0, false), -1);
    refused("the FILE", Bench::desk, x -> x.clue(1, 2, true), -1);
    refused("the FILE, the other one first", Bench::desk, x -> x.clue(2, 1, true), -1);
    UnreadSigns x = desk();
    due("of other FORMS of these SIGNS", x.clue(4, 0, false), 3);
    due("of other FORMS of these SIGNS", x.clue(5, 0, false), 4);
    due("told by WORDS, not by hand", x.clue(2, 3, false), 5);
    due("told by hand now", x.clue(3, 2, false), -1);
    x.undo();
    due("told no more", x.clue(3, 2, false), 5);
  }

  @Says("or there are 12.")
  static void promise26_aThirteenth() {
    UnreadSigns x = twelve();
    due("CLUES by hand", x.count(14), 12);
    due("a 13th of a LINE", x.clue(13, 14, false), -1);
    due("a 13th of a FILE", x.clue(13, 14, true), -1);
    same("nothing happens", counts(x, 14, 15) + " " + x.clues(false) + " " + x.clues(true), "12 13 12 0");
    due("none happens to be undone", x.undo(), 12);
    due("CLUES by hand", x.count(14), 11);
    due("room again", x.clue(13, 14, true), 12);
  }

  @Says("Others are told by hand: of two FORMS: of the SIGNS these are of at any time (of one and the same SIGN it is none).")
  static void promise26_ofTheSignsAtAnyTime() {
    UnreadSigns x = spaced(6);
    x.clue(2, 4, false);
    same("c and e", places(x, false), "abcdcf");
    x.alike(4, 0, true);
    same("e is of the SIGN a now", places(x, false), "abadaf");
    due("a CLUE of a and c", x.clues(false), 1);
    x.alike(2, 0, true);
    due("of one and the same SIGN it is none", x.clues(false), 0);
    due("it is told by hand all the same", x.count(14), 1);
    x.clue(2, 5, false);
    x.alike(4, 0, false);
    same("of two SIGNS again", places(x, false), "abadaa");
    due("two CLUES", x.clues(false), 2);
    UnreadSigns y = spaced(6);
    y.clue(0, 1, true);
    y.clue(2, 3, true);
    y.alike(0, 1, true);
    y.alike(2, 3, true);
    due("two of one and the same SIGN each", y.clues(true), 0);
  }

  // ---- promise 27

  @Says("GRID: CLUES: two unlike WORDS of the LEXICON of like length, 2 SIGNS at least")
  static void promise27_ofLikeLength() {
    due("of one SIGN", rows(6, "a/b").clues(false) + rows(6, "a/b").clues(true), 0);
    due("of two", rows(6, "ab/ac").clues(false), 1);
    due("of two", rows(6, "ac/bc").clues(true), 1);
    due("of seven", rows(9, "abcdefg/abcdefh").clues(false), 1);
    due("of seven", rows(9, "hbcdefg/abcdefg").clues(true), 1);
    due("not of like length", rows(6, "ab/abc").clues(false) + rows(6, "bc/abc").clues(true), 0);
    due("the same WORD", rows(6, "ab/ab").clues(false) + rows(6, "ab/ab").clues(true), 0);
    due("no STONES", spaced(6).clues(false) + new UnreadSigns().clues(true), 0);
  }

  @Says("that are unlike just in the last SIGN: these two SIGNS are of one LINE; just in the first: of one FILE.")
  static void promise27_unlikeJustInOne() {
    String[] texts = {"abc/abd", "abc/dbc", "abc/adc", "abc/ade", "abc/dec", "abc/dbe", "abc/def", "ab/cb", "ab/ac", "ab/cd"};
    String[] due = {"1 0", "0 1", "0 0", "0 0", "0 0", "0 0", "0 0", "0 1", "1 0", "0 0"};
    for (int i = 0; i < texts.length; i++) {
      UnreadSigns x = rows(6, texts[i]);
      same(texts[i], x.clues(false) + " " + x.clues(true), due[i]);
    }
    same("the last SIGNS", places(rows(6, "abc/abd"), false), "abccef");
    same("the first SIGNS", places(rows(6, "abc/dbc"), true), "abcaef");
  }

  @Says("How many unlike twos of SIGNS there are CLUES of, by LINE, or by FILE.")
  static void promise27_unlikeTwos() {
    UnreadSigns x = rows(6, "ab/ac", "db/dc", "aab/aac");
    due("b and c by six WORDS", x.clues(false), 1);
    x.clue(1, 2, false);
    due("by hand, too", x.clues(false), 1);
    x.clue(2, 1, true);
    due("of a FILE: a d, b c", x.clues(true), 2);
    due("three of three", rows(6, "ab/ac/ad").clues(false), 3);
    UnreadSigns y = square();
    same("190 of LINES, 10 of FILES", y.clues(false) + " " + y.clues(true), "190 10");
    for (int f = 4; f < 16; f++) y.clue(f, f + 1, true);
    due("12 more", y.clues(true), 22);
  }

  // ---- promise 28

  @Says("LINES, FILES: SIGNS that one comes to from one another by CLUES of LINE, of FILE.")
  static void promise28_byClues() {
    UnreadSigns x = spaced(6);
    x.clue(5, 3, false);
    x.clue(3, 1, false);
    same("by one between", places(x, false), "abcbeb");
    same("not of one FILE", places(x, true), "abcdef");
    x.clue(1, 0, true);
    same("by CLUES of LINE alone", places(x, false), "abcbeb");
    same("of FILE", places(x, true), "aacdef");
    UnreadSigns y = close(20);
    int[] order = {19, 3, 17, 5, 15, 7, 13, 9, 11, 1, 18, 2, 16};
    for (int i = 0; i < 12; i++) y.clue(order[i], order[i + 1], true);
    same("twelve in a row", places(y, true), "abbbebgbibkbmbobbbbb");
    same("LINES, FILES", counts(y, 10, 11), "20 8");
    UnreadSigns z = rows(6, "ab/ac", "dc/de");
    same("by WORDS", places(z, false), "abbdbf");
    z.clue(5, 4, false);
    same("by WORDS and by hand", places(z, false), "abbdbb");
  }

  @Says("The LINE (or FILE) of a FORM'S SIGN, as its least SIGN; NONE without it.")
  static void promise28_withoutIt() {
    UnreadSigns x = desk();
    due("another FORM of its SIGN", x.place(5, false), x.place(4, false));
    for (int f : NO_FORMS) due("form " + f, x.place(f, f % 2 == 0), -1);
    due("form 6", x.place(6, false), -1);
    due("form 6", x.place(6, true), -1);
    due("no FORMS", new UnreadSigns().place(0, false), -1);
    due("the last FORM", close(20).place(19, true), 19);
  }

  // ---- promise 29

  @Says("CLASH: two unlike SIGNS of one LINE and of one FILE.")
  static void promise29_ofOneLineAndOfOneFile() {
    UnreadSigns x = spaced(6);
    x.clue(0, 1, false);
    due("of one LINE", x.clash(0), -2);
    x.clue(1, 2, true);
    due("of one FILE with another one", x.clash(0), -2);
    x.clue(2, 0, true);
    same("of both", clash(x), "0 1 3");
    x.alike(0, 1, true);
    due("one and the same SIGN", x.clash(0), -2);
  }

  @Says("The first CLASH: the least first SIGN, then the least other one")
  static void promise29_theFirst() {
    UnreadSigns x = spaced(6);
    for (boolean file : new boolean[] {false, true}) { x.clue(4, 3, file); x.clue(5, 1, file); }
    same("the least first SIGN", clash(x), "1 5 2");
    for (boolean file : new boolean[] {false, true}) x.clue(5, 2, file);
    same("the least other one", clash(x), "1 2 4");
    for (boolean file : new boolean[] {false, true}) x.clue(0, 5, file);
    same("a lesser first SIGN", clash(x), "0 1 4");
    UnreadSigns y = close(20);
    for (boolean file : new boolean[] {false, true}) y.clue(18, 19, file);
    same("the last two", clash(y), "18 19 2");
  }

  @Says("its LENGTH: the fewest CLUES (unlike twos of SIGNS) by which one comes from one to the other by LINE, and those by FILE, together.")
  static void promise29_theLength() {
    UnreadSigns x = close(20);
    for (int n = 0; n < 11; n++) x.clue(n, n + 1, false);
    x.clue(0, 11, true);
    same("eleven and one", clash(x), "0 11 12");
    UnreadSigns y = spaced(6);
    y.clue(0, 1, false);
    y.clue(1, 2, false);
    y.clue(2, 3, false);
    y.clue(0, 3, true);
    same("three and one", clash(y), "0 3 4");
    y.clue(0, 2, false);
    same("two and one", clash(y), "0 3 3");
    y.clue(3, 0, false);
    same("one and one", clash(y), "0 3 2");
    UnreadSigns z = spaced(6);
    z.clue(0, 1, false);
    z.clue(0, 2, true);
    z.clue(2, 3, true);
    z.clue(3, 1, true);
    same("one and three", clash(z), "0 1 4");
    UnreadSigns w = rows(6, "ab/ac", "db/dc", "be/ce");
    w.clue(1, 2, false);
    same("many CLUES of the same two", clash(w), "1 2 2");
    UnreadSigns v = spaced(6);
    v.clue(1, 2, false);
    v.clue(4, 3, false);
    v.clue(1, 3, true);
    v.alike(2, 4, true);
    same("by FORMS of one SIGN", clash(v), "1 3 3");
    UnreadSigns u = spaced(6);
    u.clue(1, 4, false);
    u.clue(4, 5, false);
    u.clue(5, 0, false);
    u.clue(0, 3, false);
    u.clue(3, 1, true);
    same("past the least SIGN", clash(u), "1 3 5");
  }

  @Says("The first CLASH what 0: the lesser SIGN, 1: the other one, 2: LENGTH; -2: there is none. NONE for others.")
  static void promise29_noneAndOthers() {
    UnreadSigns x = spaced(6);
    for (int w = 0; w < 3; w++) due("there is none", x.clash(w), -2);
    for (int round = 0; round < 2; round++) {
      for (int w : new int[] {-1, -2, 3, 4, Integer.MAX_VALUE, Integer.MIN_VALUE}) due("what " + w, x.clash(w), -1);
      x.clue(0, 1, false);
      x.clue(0, 1, true);
    }
    same("there is one", clash(x), "0 1 2");
    for (int w = 0; w < 3; w++) due("no FORMS", new UnreadSigns().clash(w), -2);
    due("no FORMS", new UnreadSigns().clash(3), -1);
  }

  // ---- promise 30

  @Says("How many twos of SIGNS CLASH.")
  static void promise30_howMany() {
    due("no FORMS", new UnreadSigns().clashes(), 0);
    due("no CLUES", spaced(6).clashes(), 0);
    UnreadSigns x = spaced(6);
    x.clue(0, 1, false);
    due("a LINE alone", x.clashes(), 0);
    x.clue(1, 0, true);
    due("one", x.clashes(), 1);
    x.clue(1, 2, false);
    x.clue(1, 2, true);
    due("three of three SIGNS", x.clashes(), 3);
    UnreadSigns y = square();
    due("a to e", y.clashes(), 10);
    for (int f = 4; f < 16; f++) y.clue(f, f + 1, true);
    due("a to q", y.clashes(), 136);
    same("LINES, FILES", counts(y, 10, 11), "1 4");
  }

  // ---- promise 31

  @Says("A GUESS of a FORM: consonant (0 to 9), vowel (0 to 4), or both NONE (no GUESS)")
  static void promise31_consonantsVowelsOrNone() {
    UnreadSigns x = spaced(6);
    due("the least", x.guess(0, 0, 0), 0);
    due("the most", x.guess(5, 9, 4), 0);
    same("KNOWN", known(x), "pa -- -- -- -- ju");
    due("GUESSES", x.count(13), 2);
    due("no GUESS", x.guess(0, -1, -1), 0);
    due("GUESSES", x.count(13), 1);
    same("KNOWN", known(x), "-- -- -- -- -- ju");
    for (int c = 0; c < 10; c++)
      for (int v = 0; v < 5; v++) {
        x.guess(1, c, v);
        due("guess " + c + " " + v, x.known(1, 0) * 5 + x.known(1, 1), 5 * c + v);
      }
  }

  @Says("how many SIGNS are DISPUTED then")
  static void promise31_howManyAreDisputed() {
    UnreadSigns x = close(20);
    due("none", x.guess(0, 1, 1), 0);
    for (int f = 1; f < 20; f++) due("the same of " + f, x.guess(f, 1, 1), f + 1);
    due("one less", x.guess(7, 2, 2), 19);
    due("no GUESS", x.guess(8, -1, -1), 18);
    due("DISPUTED", x.count(12), 18);
  }

  @Says("NONE, and nothing happens, without these, or if it is so.")
  static void promise31_withoutThese() {
    for (int f : NO_FORMS) {
      refused("form " + f, Bench::desk, x -> x.guess(f, 1, 1), -1);
      refused("form " + f, Bench::desk, x -> x.guess(f, -1, -1), -1);
    }
    int[][] wrong = {{10, 0}, {0, 5}, {-1, 0}, {0, -1}, {-2, -2}, {-1, -2}, {-2, -1}, {-1, 4}, {9, -1}, {Integer.MAX_VALUE, 0},
        {0, Integer.MIN_VALUE}, {-1, -6}, {1, -5}, {858993459, 1}};
    for (int[] w : wrong) {
      refused("guess " + w[0] + " " + w[1], Bench::desk, x -> x.guess(0, w[0], w[1]), -1);
      refused("guess " + w[0] + " " + w[1], Bench::desk, x -> x.guess(1, w[0], w[1]), -1);
    }
    due("no FORMS", new UnreadSigns().guess(0, 0, 0), -1);
  }

  @Says("without these, or if it is so.")
  static void promise31_itIsSo() {
    refused("the same GUESS", Bench::desk, x -> x.guess(0, 2, 0), -1);
    refused("no GUESS already", Bench::desk, x -> x.guess(1, -1, -1), -1);
    UnreadSigns x = desk();
    due("another consonant", x.guess(0, 3, 0) >= 0, true);
    due("another vowel", x.guess(0, 3, 1) >= 0, true);
    due("so now", x.guess(0, 3, 1), -1);
    due("none", x.guess(0, -1, -1) >= 0, true);
    due("none now", x.guess(0, -1, -1), -1);
    UnreadSigns y = spaced(6);
    y.alike(0, 1, true);
    y.guess(0, 1, 1);
    due("KNOWN of its SIGN, but not guessed of this FORM", y.guess(1, 1, 1), 0);
    due("GUESSES", y.count(13), 2);
  }

  // ---- promise 32

  @Says("GUESSES: a FORM has a consonant and a vowel; they are of its SIGN.")
  static void promise32_ofItsSign() {
    UnreadSigns x = spaced(6);
    x.alike(2, 5, true);
    x.guess(5, 3, 4);
    same("of its SIGN", known(x), "-- -- mu -- -- mu");
    x.alike(2, 5, false);
    same("of its own SIGN", known(x), "-- -- -- -- -- mu");
    x.alike(5, 0, true);
    same("of another SIGN", known(x), "mu -- -- -- -- mu");
  }

  @Says({"A consonant is KNOWN of each SIGN of a LINE in which one is guessed, a vowel likewise by FILES",
      "that of the least FORM that has a GUESS there."})
  static void promise32_ofLinesAndFiles() {
    UnreadSigns x = spaced(6);
    x.clue(3, 4, false);
    x.clue(4, 5, false);
    x.clue(3, 2, true);
    x.guess(3, 1, 2);
    same("along its LINE and its FILE", known(x), "-- -- -i ti t- t-");
    x.guess(5, 7, 4);
    same("the least FORM's consonant", known(x), "-- -- -i ti! t-! tu!");
    x.guess(3, -1, -1);
    same("the one that is left", known(x), "-- -- -- s- s- su");
    UnreadSigns y = spaced(6);
    y.alike(0, 5, true);
    y.clue(0, 1, false);
    y.clue(0, 1, true);
    y.guess(5, 1, 1);
    y.guess(1, 2, 2);
    same("the least FORM with a GUESS, not the least SIGN", known(y), "ki! ki! -- -- -- ki!");
    y.guess(0, 3, 3);
    same("a lesser FORM", known(y), "mo! mo! -- -- -- mo!");
  }

  @Says("DISPUTE: a SIGN'S LINE has two unlike consonants guessed")
  static void promise32_twoUnlikeConsonants() {
    UnreadSigns x = spaced(6);
    x.clue(0, 1, false);
    x.clue(1, 2, false);
    x.guess(0, 1, 1);
    due("like ones", x.guess(2, 1, 2), 0);
    due("unlike ones: all of the LINE", x.guess(2, 2, 2), 3);
    same("KNOWN", known(x), "te! t-! ti! -- -- --");
    UnreadSigns y = spaced(6);
    y.alike(0, 1, true);
    y.guess(0, 1, 1);
    due("two FORMS of one SIGN", y.guess(1, 2, 1), 1);
    due("a FILE is no matter", unlikeOf(true, 1, 1, 2, 1), 0);
  }

  @Says("or its FILE two unlike vowels")
  static void promise32_twoUnlikeVowels() {
    UnreadSigns x = spaced(6);
    x.clue(0, 1, true);
    x.clue(1, 2, true);
    x.guess(0, 1, 1);
    due("like ones", x.guess(2, 2, 1), 0);
    due("unlike ones: all of the FILE", x.guess(2, 2, 2), 3);
    same("KNOWN", known(x), "te! -e! ke! -- -- --");
    UnreadSigns y = spaced(6);
    y.alike(0, 1, true);
    y.guess(0, 1, 1);
    due("two FORMS of one SIGN", y.guess(1, 1, 2), 1);
    due("a LINE is no matter", unlikeOf(false, 1, 1, 1, 2), 0);
  }

  @Says({"DISPUTE: a SIGN'S LINE has two unlike consonants guessed", "or its FILE two unlike vowels"})
  static void promise32_disputesStayBehindOtherGuesses() {
    UnreadSigns x = spaced(9);
    x.clue(3, 4, false);
    x.clue(6, 7, true);
    x.guess(3, 1, 1);
    due("a LINE", x.guess(4, 2, 2), 2);
    due("a GUESS of no DISPUTE behind it", x.guess(5, 3, 2), 2);
    x.guess(6, 4, 0);
    due("a FILE, too", x.guess(7, 5, 3), 4);
    due("a GUESS of no DISPUTE behind both", x.guess(8, 6, 4), 4);
    same("KNOWN", known(x), "-- -- -- te! ti! mi na! ra! lu");
  }

  /** How many are DISPUTED by two GUESSES of two SIGNS of one LINE, or FILE. */
  private static int unlikeOf(boolean file, int consonant, int vowel, int otherConsonant, int otherVowel) {
    UnreadSigns x = spaced(6);
    x.clue(0, 1, file);
    x.guess(0, consonant, vowel);
    return x.guess(1, otherConsonant, otherVowel);
  }

  @Says("or there is another SIGN with the same consonant and vowel, all KNOWN: such SIGNS are DISPUTED.")
  static void promise32_anotherSignWithTheSame() {
    UnreadSigns x = spaced(6);
    x.guess(0, 1, 1);
    due("another vowel", x.guess(4, 1, 2), 0);
    due("another consonant", x.guess(4, 2, 1), 0);
    due("both", x.guess(4, 1, 1), 2);
    same("KNOWN", known(x), "te! -- -- -- te! --");
    UnreadSigns y = spaced(6);
    y.clue(0, 1, false);
    y.clue(2, 3, false);
    y.guess(0, 1, 1);
    due("the same consonant, no vowels", y.guess(2, 1, 2), 0);
    same("of two SIGNS a consonant alone is KNOWN", known(y), "te t- ti t- -- --");
    y.clue(1, 5, true);
    due("by LINE and FILE", y.guess(5, 2, 2), 2);
    same("KNOWN", known(y), "te ti! ti! t- -- ki");
    due("nothing KNOWN of any", spaced(6).count(12), 0);
    UnreadSigns z = spaced(6);
    z.alike(0, 1, true);
    z.guess(0, 1, 1);
    due("two FORMS of one SIGN", z.guess(1, 1, 1), 0);
    UnreadSigns w = spaced(6);
    w.clue(0, 1, true);
    w.clue(0, 2, true);
    due("the same vowel, no consonants", w.guess(0, 1, 1), 0);
    same("of two SIGNS a vowel alone is KNOWN", known(w), "te -e -e -- -- --");
  }

  @Says("What is KNOWN of a FORM'S SIGN what 0: the consonant, 1: the vowel (NONE each), 2: 1 if it is DISPUTED, else 0. NONE without these.")
  static void promise32_withoutThese() {
    UnreadSigns x = desk();
    due("consonant", x.known(0, 0), 2);
    due("no vowel", spaced(6).known(0, 1), -1);
    due("no consonant", spaced(6).known(5, 0), -1);
    due("not DISPUTED", spaced(6).known(5, 2), 0);
    for (int w : new int[] {-1, -2, 3, 4, Integer.MAX_VALUE, Integer.MIN_VALUE}) due("what " + w, x.known(0, w), -1);
    for (int f : NO_FORMS) for (int w = 0; w < 3; w++) due("form " + f, x.known(f, w), -1);
    due("no FORMS", new UnreadSigns().known(0, 2), -1);
  }
}
