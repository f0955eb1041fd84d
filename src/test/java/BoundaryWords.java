/** Boundary cases of promises 17 to 25: PIECES, WORDS, the LEXICON and STEMS. */
final class BoundaryWords extends Bench {
  private static final int[] FAR = {Integer.MAX_VALUE, Integer.MIN_VALUE, -2, -3, 120, 1000};

  private static UnreadSigns toTheRight(int forms, String... stones) {
    UnreadSigns x = forms > 9 ? close(forms, stones) : spaced(forms, stones);
    x.way(0);
    return x;
  }

  /** Six STONES of four ROWS of ten LETTERS, all the same. */
  private static UnreadSigns full(char letter) {
    String row = String.valueOf(letter).repeat(10), stone = row + "/" + row + "/" + row + "/" + row;
    return toTheRight(3, stone, stone, stone, stone, stone, stone);
  }

  /** Twenty ROWS: aa ab ac .. at. */
  private static UnreadSigns allBehindA() {
    String[] stones = new String[5];
    for (int s = 0; s < 5; s++) {
      char c = (char) ('a' + 4 * s);
      stones[s] = "a" + c + "/a" + (char) (c + 1) + "/a" + (char) (c + 2) + "/a" + (char) (c + 3);
    }
    return toTheRight(20, stones);
  }

  // ---- promise 17

  @Says("A PIECE is a row of 1 to 7 SIGNS.")
  static void promise17_oneToSevenSigns() {
    UnreadSigns x = toTheRight(9, "abcdefghia");
    String row = "abcdefghia";
    for (int n = 1; n <= 7; n++) due(n + " SIGNS", comes(x, row.substring(3, Math.min(10, 3 + n))), 1);
    due("a", comes(x, "a"), 2);
    due("seven, to the end", comes(x, "defghia"), 1);
    due("eight", comes(x, "abcdefgh"), -1);
    due("none", comes(x, ""), -1);
  }

  @Says("It COMES as often as it stands in ROWS, as they are read")
  static void promise17_asOftenAsItStandsInRows() {
    UnreadSigns x = toTheRight(4, "ab/cd", "ab");
    due("ab", comes(x, "ab"), 2);
    due("not over two ROWS", comes(x, "bc"), 0);
    due("not over two STONES", comes(x, "da"), 0);
    due("not beyond a ROW", comes(x, "cda"), 0);
    due("not to the left", comes(x, "ba"), 0);
    x.way(1);
    due("to the left", comes(x, "ba"), 2);
    due("not to the right", comes(x, "ab"), 0);
    x.way(2);
    due("by turns", comes(x, "ab") * 10 + comes(x, "dc"), 21);
    UnreadSigns y = toTheRight(4, "..ab./.cd..");
    due("empty places left out", comes(y, "ab") * 10 + comes(y, "bc"), 10);
    due("240 places", comes(full('a'), "a"), 240);
    due("no STONES", comes(spaced(3), "a"), 0);
  }

  @Says("(also overlapping itself)")
  static void promise17_overlapping() {
    due("aa in ten", comes(toTheRight(3, "aaaaaaaaaa"), "aa"), 9);
    due("seven in ten", comes(toTheRight(3, "aaaaaaaaaa"), "aaaaaaa"), 4);
    due("abab", comes(toTheRight(3, "ababababab"), "abab"), 4);
    due("two in 24 ROWS", comes(full('b'), "bb"), 216);
  }

  @Says("the TAPE, which is empty then, tells it: LETTERS (any FORMS of its SIGNS).")
  static void promise17_theTapeTellsIt() {
    UnreadSigns x = toTheRight(6, "abc/abd");
    due("abc", comes(x, "abc"), 1);
    due("the TAPE", x.count(17), 0);
    due("an empty TAPE", x.comes(), -1);
    due("e", comes(x, "abe"), 0);
    x.alike(4, 2, true);
    due("e is of the SIGN c", comes(x, "abe"), 1);
    x.alike(4, 3, true);
    due("c, d and e", comes(x, "abe"), 2);
    due("each of its FORMS", comes(x, "d") * 10 + comes(x, "c"), 22);
  }

  @Says("NONE without 1 to 7 LETTERS that are FORMS (the TAPE is empty then, too).")
  static void promise17_withoutLetters() {
    for (int b = 0; b < 256; b++) {
      UnreadSigns x = toTheRight(3, "aba");
      boolean form = b >= 'a' && b <= 'c';
      due("byte " + b, comes(x, "" + (char) b), form ? (b == 'a' ? 2 : b == 'b' ? 1 : 0) : -1);
      due("the TAPE", x.count(17), 0);
      due("byte " + b + " behind a LETTER", comes(x, "b" + (char) b), form ? (b == 'a' ? 1 : 0) : -1);
      due("the TAPE", x.count(17), 0);
    }
    UnreadSigns x = toTheRight(3, "aaaaaaaaaa");
    for (int n : new int[] {8, 9, 10, 300}) {
      due(n + " LETTERS", comes(x, "a".repeat(n)), -1);
      due("the TAPE", x.count(17), 0);
    }
    due("the last is no FORM", comes(x, "aaaaaad"), -1);
    due("no FORMS", comes(new UnreadSigns(), "a"), -1);
    refused("no PIECE", Bench::desk, y -> comes(y, "xyz"), -1);
  }

  // ---- promise 18

  @Says("NEXT of it: how many unlike SIGNS stand right behind it")
  static void promise18_unlikeSigns() {
    UnreadSigns x = toTheRight(6, "abacad/abacae");
    due("b, c, d, e behind a", next(x, "a"), 4);
    due("a behind b", next(x, "b"), 1);
    due("d, e", next(x, "aca"), 2);
    x.alike(3, 4, true);
    due("one SIGN now", next(x, "aca"), 1);
    UnreadSigns y = toTheRight(3, "aab");
    due("itself, too", next(y, "a"), 2);
    due("of seven", next(toTheRight(3, "aaaaaaaabb"), "aaaaaaa"), 2);
  }

  @Says("and 1 more, if it stands at the end of a ROW.")
  static void promise18_atTheEndOfARow() {
    UnreadSigns x = toTheRight(4, "ab/cb", "dba");
    due("b: a, and the end", next(x, "b"), 2);
    due("ab: the end alone", next(x, "ab"), 1);
    due("a: b, and the end", next(x, "a"), 2);
    due("two ends are one", next(toTheRight(4, "ab/ab", "ab"), "ab"), 1);
    due("the end behind empty places", next(toTheRight(4, "ab../ab"), "ab"), 1);
    due("all twenty, and the end", next(allBehindA(), "a"), 21);
    due("at the end of a ROW of seven", next(toTheRight(3, "abcabca"), "abcabca"), 1);
  }

  @Says("NEXT of a PIECE, told likewise (0, if it COMES nowhere).")
  static void promise18_toldLikewise() {
    UnreadSigns x = toTheRight(4, "ab/abc");
    due("nowhere", next(x, "d"), 0);
    due("nowhere", next(x, "ba"), 0);
    due("the TAPE", x.count(17), 0);
    due("an empty TAPE", x.next(), -1);
    due("eight", next(x, "abababab"), -1);
    due("the TAPE", x.count(17), 0);
    due("no FORM", next(x, "abe"), -1);
    due("the TAPE", x.count(17), 0);
    due("seven", next(x, "abababa"), 0);
    x.alike(3, 1, true);
    due("any FORMS of its SIGNS", next(x, "ad"), 2);
    due("no FORMS", next(new UnreadSigns(), "a"), -1);
    refused("no PIECE", Bench::desk, y -> next(y, "?"), -1);
  }

  // ---- promise 19

  @Says("RISE: what it was")
  static void promise19_1To9() {
    UnreadSigns x = new UnreadSigns();
    due("2 at first", x.count(8), 2);
    due("1", x.rise(1), 2);
    due("9", x.rise(9), 1);
    due("8", x.rise(8), 9);
    due("RISE", x.count(8), 8);
  }

  @Says("RISE: what it was; NONE, and nothing happens, for others (1 to 9)")
  static void promise19_others() {
    for (int n : new int[] {0, -1, 10, 11, Integer.MAX_VALUE, Integer.MIN_VALUE}) refused("rise " + n, Bench::desk, x -> x.rise(n), -1);
  }

  @Says("for others (1 to 9), or if it is so.")
  static void promise19_itIsSo() {
    refused("9 again", Bench::desk, x -> x.rise(9), -1);
    due("2 at first", new UnreadSigns().rise(2), -1);
    UnreadSigns x = desk();
    x.rise(1);
    due("1 again", x.rise(1), -1);
    x.undo();
    due("9 by undoing", x.rise(9), -1);
  }

  // ---- promise 20

  @Says("WORDS: each ROW is cut from its first SIGN on")
  static void promise20_fromItsFirstSignOn() {
    UnreadSigns x = rows(9, "abcdefghi");
    same("to the right", lexicon(x), "abcdefg1 hi1");
    x.way(1);
    same("to the left", lexicon(x), "ba1 ihgfedc1");
    same("behind an empty place", lexicon(rows(9, ".abcdefghi")), "abcdefg1 hi1");
  }

  @Says("a WORD goes on till the ROW ends")
  static void promise20_tillTheRowEnds() {
    for (int n = 1; n <= 7; n++) same(n + " SIGNS", lexicon(rows(9, "abcdefg".substring(0, n))), "abcdefg".substring(0, n) + "1");
    same("ROWS are not one", lexicon(rows(9, "ab/cd", "ef")), "ab1 cd1 ef1");
  }

  @Says("or it has 7 SIGNS")
  static void promise20_sevenSigns() {
    same("seven", lexicon(rows(9, "abcdefg")), "abcdefg1");
    same("eight", lexicon(rows(9, "abcdefgh")), "abcdefg1 h1");
    same("ten", lexicon(rows(9, "abcdefghia")), "abcdefg1 hia1");
    same("all alike", lexicon(rows(9, "aaaaaaaaaa")), "aaa1 aaaaaaa1");
  }

  @Says("or it has 2 at least and NEXT of it")
  static void promise20_twoAtLeast() {
    // NEXT of a is 3, of ab, ac, ad 1.
    same("not cut behind one", lexicon(toTheRight(4, "ab/ac/ad")), "ab1 ac1 ad1");
    // NEXT of a is 1, of ab 2.
    same("cut behind two", lexicon(toTheRight(4, "abc/abd")), "ab2 c1 d1");
    same("not cut behind one SIGN that ends ROWS, too", lexicon(toTheRight(4, "a/ab/ac")), "a1 ab1 ac1");
  }

  @Says("NEXT of it is more than NEXT of it without its last SIGN")
  static void promise20_more() {
    // NEXT of a is 2 (b, c), of ab 2 (c, d).
    same("as many", lexicon(toTheRight(4, "abc/abd/ac")), "abc1 abd1 ac1");
    // NEXT of ab is 3 (c, d, the end).
    same("one more", lexicon(toTheRight(4, "abc/abd/ac/ab")), "ab3 ac1 c1 d1");
    // NEXT of a is 3 (b, c, d), of ab 2.
    same("less", lexicon(toTheRight(4, "abc/abd/ac/ad")), "abc1 abd1 ac1 ad1");
    // NEXT of a is 3 (b, c, d), of ab 1 (c), of abc 2 (d, a): more than just ahead of it.
    same("more than without its last SIGN", lexicon(toTheRight(4, "abcd/abca/aca/ad")), "a1 abc2 aca1 ad1 d1");
    // NEXT of six is 1, of seven 2, and so is the bound of seven SIGNS.
    same("at the seventh", lexicon(toTheRight(9, "abcdefgh/abcdefgi")), "abcdefg2 h1 i1");
  }

  @Says("and RISE (1 to 9; 2 at first) at least.")
  static void promise20_riseAtLeast() {
    UnreadSigns x = toTheRight(9, "ab/aba/abc/abd", "abe/abf/abg/abh", "abi");
    x.rise(9);
    same("NEXT of ab is 9", lexicon(x), "a1 ab9 c1 d1 e1 f1 g1 h1 i1");
    UnreadSigns y = toTheRight(9, "ab/aba/abc/abd", "abe/abf/abg/abh");
    y.rise(9);
    same("NEXT of ab is 8, RISE 9", lexicon(y), "ab1 aba1 abc1 abd1 abe1 abf1 abg1 abh1");
    y.rise(8);
    same("NEXT of ab is 8, RISE 8", lexicon(y), "a1 ab8 c1 d1 e1 f1 g1 h1");
    y.rise(1);
    same("RISE 1", lexicon(y), "a1 ab8 c1 d1 e1 f1 g1 h1");
    UnreadSigns z = toTheRight(4, "abc/abd");
    same("NEXT of ab is 2, RISE 2", lexicon(z), "ab2 c1 d1");
    z.rise(3);
    same("NEXT of ab is 2, RISE 3", lexicon(z), "abc1 abd1");
  }

  @Says({"How many WORDS the LEXICON has.", "LEXICON: unlike WORDS"})
  static void promise20_unlikeWords() {
    due("no STONES", new UnreadSigns().words(), 0);
    due("one SIGN", toTheRight(3, "a").words(), 1);
    UnreadSigns x = rows(4, "ab/ab/ab/ab", "ab/ba");
    due("unlike ones", x.words(), 2);
    due("all", x.count(5), 6);
    UnreadSigns y = full('a');
    y.rise(9);
    due("48 WORDS, two unlike ones", y.words() * 100 + y.count(5), 248);
    due("twenty", allBehindA().words(), 20);
    forms(x, filled(0, 3));
    due("no more", x.words(), 0);
    UnreadSigns z = longLexicon();
    due("48 unlike ones", z.words() * 100 + z.count(5), 4848);
    due("how often", z.word(0, 0) + z.word(47, 0), 2);
    due("the last of them", z.word(47, 1) * 10000 + z.word(47, 2) * 100 + z.word(47, 3), 31117);
  }

  // ---- promise 21

  @Says("in the order of their letters (a beginning ahead of what goes on), each with how often it is a WORD.")
  static void promise21_theOrder() {
    same("a beginning ahead", lexicon(rows(4, "abc/ab/a/abca")), "a1 ab1 abc1 abca1");
    same("by the first letter, then the next", lexicon(rows(4, "ba/b/ab/aab", "c/aac")), "aab1 aac1 ab1 b1 ba1 c1");
    same("the last letter of seven", lexicon(rows(9, "aaaaaac/aaaaaab", "aaaaaa")), "aaaaaa1 aaaaaab1 aaaaaac1");
    same("the first and the last FORM", lexicon(rows(20, "t/a/tt/at", "ta/aa")), "a1 aa1 at1 t1 ta1 tt1");
    UnreadSigns x = full('a');
    x.rise(9);
    same("how often", lexicon(x), "aaa24 aaaaaaa24");
  }

  @Says("Of the k-th (0 the first) WORD of the LEXICON what 0: how often it is, 1: how many SIGNS it has, 2 to 8: SIGN 0 to 6 of it (NONE without it).")
  static void promise21_signsOfAWord() {
    UnreadSigns x = rows(9, "bcdefgh/a/a");
    int[][] due = {{2, 1, 0, -1, -1, -1, -1, -1, -1}, {1, 7, 1, 2, 3, 4, 5, 6, 7}};
    for (int k = 0; k < 2; k++) for (int w = 0; w <= 8; w++) due("word " + k + " " + w, x.word(k, w), due[k][w]);
  }

  @Says("SIGN 0 to 6 of it (NONE without it). NONE without these.")
  static void promise21_withoutThese() {
    UnreadSigns x = rows(9, "bcdefgh/a/a");
    for (int w : new int[] {-1, -2, 9, 10, 11, Integer.MAX_VALUE, Integer.MIN_VALUE}) {
      due("what " + w, x.word(0, w), -1);
      due("what " + w, x.word(1, w), -1);
    }
    for (int w = 0; w <= 8; w++) {
      due("word -1 " + w, x.word(-1, w), -1);
      due("word 2 " + w, x.word(2, w), -1);
      for (int k : FAR) due("word " + k + " " + w, x.word(k, w), -1);
    }
    due("no WORDS", new UnreadSigns().word(0, 0), -1);
  }

  // ---- promise 22

  @Says("by how often they are, the most first, of like ones by their order")
  static void promise22_theMostFirst() {
    UnreadSigns x = rows(5, "c/c/b/a", "b/d/e/e", "e/d/d");
    same("lexicon", lexicon(x), "a1 b2 c2 d3 e3");
    int[] due = {3, 4, 1, 2, 0};
    for (int k = 0; k < 5; k++) due("rank " + k, x.rank(k), due[k]);
    UnreadSigns y = rows(5, "a/b/c/d");
    for (int k = 0; k < 4; k++) due("all alike", y.rank(k), k);
    UnreadSigns z = rows(5, "c/c/c/b", "b/a");
    for (int k = 0; k < 3; k++) due("turned about", z.rank(k), 2 - k);
    z.alike(0, 2, true);
    same("other SIGNS", lexicon(z), "a4 b2");
    due("anew", z.rank(0) * 10 + z.rank(1), 1);
  }

  @Says({"Which WORD of the LEXICON is the k-th (0 the first)", "of like ones by their order; NONE without it."})
  static void promise22_withoutIt() {
    UnreadSigns x = rows(5, "a/b/b");
    due("the first", x.rank(0), 1);
    due("the last", x.rank(1), 0);
    due("behind the last", x.rank(2), -1);
    due("ahead of the first", x.rank(-1), -1);
    for (int k : FAR) due("rank " + k, x.rank(k), -1);
    due("no WORDS", new UnreadSigns().rank(0), -1);
  }

  // ---- promise 23

  @Says("How often a FORM'S SIGN stands what 0: in ROWS, 1: first in WORDS, 2: last in WORDS (as often as these are), 3: in how many WORDS of the LEXICON it is.")
  static void promise23_howOften() {
    UnreadSigns x = rows(6, "aba/aba/b/ca", "aa");
    same("lexicon", lexicon(x), "aa1 aba2 b1 ca1");
    int[][] due = {{7, 3, 4, 3}, {3, 1, 1, 2}, {1, 1, 0, 1}, {0, 0, 0, 0}};
    for (int f = 0; f < 4; f++) for (int w = 0; w < 4; w++) due("stands " + f + " " + w, x.stands(f, w), due[f][w]);
    x.alike(5, 2, true);
    due("by another FORM of it", x.stands(5, 1), 1);
    UnreadSigns y = full('a');
    y.rise(9);
    int[] most = {240, 48, 48, 2};
    for (int w = 0; w < 4; w++) due("240 places " + w, y.stands(0, w), most[w]);
    x.way(1);
    due("first, to the left", x.stands(2, 1), 0);
    due("last, to the left", x.stands(2, 2), 1);
  }

  @Says("3: in how many WORDS of the LEXICON it is. NONE without these.")
  static void promise23_withoutThese() {
    UnreadSigns x = rows(6, "aba");
    for (int w : new int[] {-1, 4, 5, Integer.MAX_VALUE, Integer.MIN_VALUE}) due("what " + w, x.stands(0, w), -1);
    for (int f : new int[] {-1, 6, 20, Integer.MAX_VALUE, Integer.MIN_VALUE})
      for (int w = 0; w < 4; w++) due("form " + f, x.stands(f, w), -1);
    due("no FORMS", new UnreadSigns().stands(0, 0), -1);
    for (int w = 0; w < 4; w++) due("no STONES " + w, spaced(3).stands(2, w), 0);
  }

  // ---- promise 24

  @Says("How often the SIGN of one FORM stands in a ROW right ahead of that of another one (or of the same).")
  static void promise24_rightAhead() {
    UnreadSigns x = rows(6, "abc/cba", "ab", "bd");
    due("a b", x.ahead(0, 1), 2);
    due("b a", x.ahead(1, 0), 1);
    due("not right ahead", x.ahead(0, 2), 0);
    due("not over two ROWS", x.ahead(2, 2), 0);
    due("not over two STONES", x.ahead(1, 1), 0);
    due("nowhere", x.ahead(4, 5), 0);
    due("the same", rows(3, "aaa/aab").ahead(0, 0), 3);
    due("240 places", full('a').ahead(0, 0), 216);
    due("the last one in a ROW of ten", rows(9, "abcdefghia").ahead(8, 0), 1);
    due("over two WORDS", rows(9, "abcdefghia").ahead(6, 7), 1);
    x.alike(5, 0, true);
    due("by another FORM of it", x.ahead(5, 1), 2);
    x.alike(0, 1, true);
    due("of one SIGN now", x.ahead(1, 0), 3);
  }

  @Says("right ahead of that of another one (or of the same). NONE without these.")
  static void promise24_withoutThese() {
    UnreadSigns x = rows(6, "abab");
    for (int f : new int[] {-1, -2, 6, 20, Integer.MAX_VALUE, Integer.MIN_VALUE}) {
      due("one is " + f, x.ahead(f, 0), -1);
      due("the other is " + f, x.ahead(0, f), -1);
      due("both are " + f, x.ahead(f, f), -1);
    }
    due("no FORMS", new UnreadSigns().ahead(0, 0), -1);
  }

  // ---- promise 25

  @Says("STEMS: PIECES of 2 SIGNS at least")
  static void promise25_twoSignsAtLeast() {
    due("of one SIGN", rows(6, "ab/ac").stem(-1, 0), 0);
    due("of none", rows(6, "a/b").stem(-1, 0), 0);
    UnreadSigns x = rows(6, "abc/abd");
    due("of two", x.stem(-1, 0), 1);
    due("its SIGNS", x.stem(0, 2), 2);
    UnreadSigns y = rows(9, "abcdefg/abcdefh");
    due("of six", y.stem(-1, 0) * 10 + y.stem(0, 2), 16);
  }

  @Says("so that two or more WORDS of the LEXICON are it and just one SIGN more (its ENDINGS)")
  static void promise25_twoOrMoreWords() {
    due("one WORD", rows(6, "abc").stem(-1, 0), 0);
    due("one WORD, twice", rows(6, "abc/abc").stem(-1, 0), 0);
    due("one SIGN more, and two more", rows(6, "abc/abde").stem(-1, 0), 0);
    due("itself, and one SIGN more", rows(6, "ab/abc").stem(-1, 0), 0);
    due("unlike ahead of it", rows(6, "abc/dbe").stem(-1, 0), 0);
    due("unlike in the middle", rows(6, "abc/adc").stem(-1, 0), 0);
    UnreadSigns x = rows(20, "aba/abb/abs/abt", "abt/abta");
    same("four ENDINGS", x.stem(-1, 0) + " " + x.stem(0, 0) + " " + Integer.toBinaryString(x.stem(0, 1)), "1 4 11000000000000000011");
  }

  @Says("(its ENDINGS); in the order of the LEXICON.")
  static void promise25_theOrder() {
    UnreadSigns x = rows(6, "bab/bac/abd/abe", "aba/aaaa/aaab");
    int[] due = {2, 0, 0, 0, 2, 0, 1, -1, 2, 1, 0, -1};
    for (int k = 0; k < 3; k++)
      for (int i = 1; i < 4; i++) due("stem " + k + " sign " + (i - 1), x.stem(k, 2 + i), due[4 * k + i]);
    due("how many", x.stem(-1, 0), 3);
    UnreadSigns y = rows(6, "abcd/abce/abd/abe");
    due("a beginning ahead of what goes on", y.stem(0, 2) * 10 + y.stem(1, 2), 23);
    UnreadSigns z = rows(6, "abca/abcb/abd/abe", "acc/acf");
    due("each with its own ENDINGS", z.stem(0, 1) * 10000 + z.stem(1, 1) * 100 + z.stem(2, 1), 240336);
    z.loose(0);
    due("the same again behind another ACT", z.stem(0, 1) * 10000 + z.stem(1, 1) * 100 + z.stem(2, 1), 240336);
    UnreadSigns w = rows(6, "abc/abd");
    due("one STEM", w.stem(-1, 0), 1);
    w.rise(8);
    due("the same STEM behind another ACT", w.stem(-1, 0), 1);
    z.alike(3, 4, true);
    due("another LEXICON, other STEMS", z.stem(-1, 0) * 10000 + z.stem(0, 1) * 100 + z.stem(1, 1), 20336);
    z.alike(0, 1, true);
    z.alike(2, 5, true);
    due("no STEMS", z.stem(-1, 0), 0);
  }

  @Says("in the order of the LEXICON.")
  static void promise25_manyStems() {
    String[] stones = new String[6];
    for (int s = 0; s < 6; s++) {
      StringBuilder b = new StringBuilder();
      for (int r = 0; r < 4; r++) {
        char first = (char) ('a' + 2 * s + r / 2);
        b.append(r > 0 ? "/" : "").append(first).append("abcde").append(r % 2 == 0 ? 'f' : 'g');
        b.append(first).append('t').append(r % 2 == 0 ? 'h' : 'i');
      }
      stones[s] = b.toString();
    }
    UnreadSigns x = rows(20, stones);
    due("WORDS", x.words(), 48);
    due("STEMS", x.stem(-1, 0), 24);
    for (int k = 0; k < 24; k++) {
      boolean six = k % 2 == 0;
      due("ENDINGS of " + k, x.stem(k, 1), six ? 32 + 64 : 128 + 256);
      due("SIGNS of " + k, x.stem(k, 2), six ? 6 : 2);
      due("the first SIGN of " + k, x.stem(k, 3), k / 2);
      due("the next SIGN of " + k, x.stem(k, 4), six ? 0 : 19);
    }
    due("no more", x.stem(24, 0), -1);
  }

  @Says({"Of the k-th (0 the first) of the STEMS what 0: how many ENDINGS, 1: ENDINGS, as bits, 2: how many SIGNS",
      "3 to 8: SIGN 0 to 5 of it (NONE without it)"})
  static void promise25_signsOfAStem() {
    UnreadSigns x = rows(9, "abcdefg/abcdefh/bba/bbi");
    int[][] due = {{2, 64 + 128, 6, 0, 1, 2, 3, 4, 5}, {2, 1 + 256, 2, 1, 1, -1, -1, -1, -1}};
    for (int k = 0; k < 2; k++) for (int w = 0; w <= 8; w++) due("stem " + k + " " + w, x.stem(k, w), due[k][w]);
  }

  @Says("k NONE: how many STEMS there are (whatever what is).")
  static void promise25_whateverWhatIs() {
    UnreadSigns x = rows(9, "abcdefg/abcdefh/bba/bbi");
    for (int w : new int[] {-2, -1, 0, 3, 8, 9, 77, Integer.MAX_VALUE, Integer.MIN_VALUE}) due("what " + w, x.stem(-1, w), 2);
    due("none", new UnreadSigns().stem(-1, 9), 0);
  }

  @Says("(whatever what is). NONE without these.")
  static void promise25_withoutThese() {
    UnreadSigns x = rows(9, "abcdefg/abcdefh/bba/bbi");
    for (int w : new int[] {-1, -2, -3, 9, 10, Integer.MAX_VALUE, Integer.MIN_VALUE}) {
      due("what " + w, x.stem(0, w), -1);
      due("what " + w, x.stem(1, w), -1);
    }
    for (int w = 0; w <= 8; w++) {
      due("stem 2 " + w, x.stem(2, w), -1);
      for (int k : FAR) due("stem " + k + " " + w, x.stem(k, w), -1);
    }
    due("no STEMS", new UnreadSigns().stem(0, 0), -1);
  }
}
