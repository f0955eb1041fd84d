/** Boundary cases of promises 7 to 16: FORMS, SIGNS, the TREE, and the WAY in which ROWS are read. */
final class BoundarySigns extends Bench {
  private static final int[] NO_FORMS = {-1, -2, 6, 19, 20, 400, Integer.MAX_VALUE, Integer.MIN_VALUE};

  // ---- promise 7

  @Says("the least, of how many of 25 places are unlike")
  static void promise07_noneToAllPlaces() {
    UnreadSigns x = office("0 0 0 0 0;31 31 31 31 31;16 0 0 0 0;31 31 31 31 30;");
    due("all of them", x.unlike(0, 1), 25);
    due("one", x.unlike(0, 2), 1);
    due("24", x.unlike(1, 2), 24);
    due("one is dark, one is not", x.unlike(2, 3), 23);
    due("one", x.unlike(1, 3), 1);
  }

  @Says("if one of them is shifted by -1, 0 or 1 to the right and by -1, 0 or 1 downwards")
  static void promise07_shiftedByOneAtMost() {
    // The place in the middle, and each of the other 24.
    StringBuilder b = new StringBuilder("0 0 4 0 0;");
    int n = 1;
    int[] due = new int[20];
    for (int r = 0; r < 5; r++)
      for (int c = 0; c < 5; c++) {
        if (n == 20 || r == 2 && c == 2 || r == 4 && c > 0) continue;
        for (int i = 0; i < 5; i++) b.append(i == r ? 16 >> c : 0).append(i < 4 ? " " : ";");
        due[n++] = Math.abs(r - 2) <= 1 && Math.abs(c - 2) <= 1 ? 0 : 2;
      }
    UnreadSigns x = office(b);
    for (int f = 0; f < n; f++) {
      due("the middle and " + f, x.unlike(0, f), due[f]);
      due(f + " and the middle", x.unlike(f, 0), due[f]);
    }
  }

  @Says("(what goes out at one side comes in at the other one)")
  static void promise07_roundTheSides() {
    UnreadSigns x = office("16 0 0 0 0;1 0 0 0 0;0 0 0 0 16;0 0 0 0 1;2 0 0 0 0;0 0 0 16 0;0 0 0 0 2;0 0 0 1 0;");
    int[] due = {0, 0, 0, 0, 2, 2, 2, 2};
    for (int f = 0; f < 8; f++) due("the upper left corner and " + f, x.unlike(0, f), due[f]);
    for (int f = 0; f < 8; f++) due(f + " and the upper left corner", x.unlike(f, 0), due[f]);
    UnreadSigns y = office("17 0 0 0 31;31 24 0 0 0;31 0 0 0 17;");
    due("round both sides", y.unlike(0, 1), 0);
    due("round both sides, back again", y.unlike(1, 0), 0);
    due("a row comes in, another one does not meet", y.unlike(0, 2), 4);
  }

  @Says("UNLIKE of two FORMS (0 of one and the same)")
  static void promise07_oneAndTheSame() {
    UnreadSigns x = close(20);
    for (int f = 0; f < 20; f++) due("form " + f, x.unlike(f, f), 0);
    due("the first and the last", x.unlike(0, 19), 19);
    due("the last and the first", x.unlike(19, 0), 19);
  }

  @Says("UNLIKE of two FORMS (0 of one and the same); NONE without these.")
  static void promise07_withoutThese() {
    UnreadSigns x = spaced(6);
    for (int f : NO_FORMS) {
      due("one is " + f, x.unlike(f, 0), -1);
      due("the other is " + f, x.unlike(0, f), -1);
      due("both are " + f, x.unlike(f, f), -1);
    }
    due("no FORMS", new UnreadSigns().unlike(0, 0), -1);
    forms(x, filled(0, 3));
    due("no more", x.unlike(0, 2), -1);
  }

  // ---- promise 8

  @Says("UNLIKE is LOOSE at most")
  static void promise08_looseAtMost() {
    UnreadSigns x = office(filled(0, 4));
    x.loose(3);
    same("one more than LOOSE", signs(x), "ab");
    x.loose(4);
    same("just LOOSE", signs(x), "aa");
    x.loose(5);
    same("less than LOOSE", signs(x), "aa");
    same("2 at first", signs(office(filled(0, 2))), "aa");
    same("2 at first", signs(office(filled(0, 3))), "ab");
    UnreadSigns y = office("16 0 0 0 0;8 0 0 0 0;4 0 0 0 0;0 0 0 0 0;31 31 31 31 31;");
    y.loose(0);
    same("LOOSE 0: UNLIKE 0", signs(y), "aaade");
    y.loose(24);
    same("LOOSE 24", signs(y), "aaaaa");
    UnreadSigns z = office("0 0 0 0 0;31 31 31 31 31;");
    z.loose(24);
    same("UNLIKE 25, LOOSE 24", signs(z), "ab");
    z.loose(25);
    same("UNLIKE 25, LOOSE 25", signs(z), "aa");
  }

  @Says("and they are not told APART")
  static void promise08_toldApart() {
    UnreadSigns x = office(filled(0, 1));
    same("LINKED", signs(x), "aa");
    x.apart(1, 0, true);
    same("APART", signs(x), "ab");
    x.loose(25);
    same("APART, however LOOSE", signs(x), "ab");
    x.apart(0, 1, false);
    same("no more", signs(x), "aa");
  }

  @Says("Two FORMS are LINKED, if they are told ALIKE")
  static void promise08_toldAlike() {
    UnreadSigns x = office("0 0 0 0 0;31 31 31 31 31;");
    x.loose(0);
    x.alike(1, 0, true);
    same("ALIKE, however unlike", signs(x), "aa");
    x.alike(0, 1, false);
    same("no more", signs(x), "ab");
  }

  @Says("SIGNS: FORMS that one comes to from one another by LINKS")
  static void promise08_byLinks() {
    same("by one between them", signs(office(filled(0, 4, 2))), "aaa");
    same("by many, told in another order", signs(office(filled(0, 14, 4, 10, 8, 2, 12, 6))), "aaaaaaaa");
    same("two rows that never meet", signs(office(filled(0, 7, 2, 9, 4, 11))), "ababab");
    UnreadSigns x = office(filled(0, 1, 2));
    x.apart(0, 1, true);
    same("APART, but by a third one", signs(x), "aaa");
    x.apart(1, 2, true);
    same("APART of both", signs(x), "aba");
    UnreadSigns y = close(20);
    y.loose(1);
    same("twenty in a row", signs(y), "aaaaaaaaaaaaaaaaaaaa");
    y.apart(9, 10, true);
    same("cut in the middle", signs(y), "aaaaaaaaaakkkkkkkkkk");
  }

  @Says({"a SIGN is named by its least FORM.", "The SIGN of a FORM (its least FORM)"})
  static void promise08_itsLeastForm() {
    UnreadSigns x = spaced(6);
    x.alike(5, 3, true);
    same("d and f", signs(x), "abcded");
    x.alike(5, 1, true);
    same("b, d and f", signs(x), "abcbeb");
    x.alike(3, 0, true);
    same("a, b, d and f", signs(x), "aacaea");
    due("the first", x.sign(0), 0);
    due("the last", x.sign(5), 0);
  }

  @Says("The SIGN of a FORM (its least FORM); NONE without it.")
  static void promise08_withoutIt() {
    UnreadSigns x = spaced(6);
    for (int f : NO_FORMS) due("sign " + f, x.sign(f), -1);
    due("no FORMS", new UnreadSigns().sign(0), -1);
    forms(x, filled(0, 3));
    due("no more", x.sign(2), -1);
  }

  // ---- promise 9

  @Says("How many FORMS a SIGN has, told by any of them")
  static void promise09_toldByAnyOfThem() {
    UnreadSigns x = close(20);
    for (int f = 0; f < 20; f++) due("one each", x.size(f), 1);
    x.loose(1);
    for (int f = 0; f < 20; f++) due("all in one", x.size(f), 20);
    x.apart(18, 19, true);
    due("but for the last", x.size(18), 19);
    due("the last", x.size(19), 1);
  }

  @Says("told by any of them; NONE without it.")
  static void promise09_withoutIt() {
    UnreadSigns x = spaced(6);
    for (int f : NO_FORMS) due("size " + f, x.size(f), -1);
    due("no FORMS", new UnreadSigns().size(0), -1);
    forms(x, filled(0, 3));
    due("no more", x.size(2), -1);
  }

  // ---- promise 10

  @Says("of all twos of FORMS, by UNLIKE, of like ones by the lesser one, then by the other one")
  static void promise10_theOrder() {
    same("by UNLIKE", tree(office(filled(9, 4, 3, 1))), "1bc 2cd 5ab");
    same("of like ones by the lesser one", tree(office(filled(0, 10, 13, 3))), "3ad 3bc 7bd");
    same("then by the other one", tree(office(filled(5, 2, 8))), "3ab 3ac");
    same("all like", tree(spaced(6)), "3ab 3bc 3cd 3de 3ef");
    same("UNLIKE 0 and 25", tree(office("0 0 0 0 0;16 0 0 0 0;8 0 0 0 0;31 31 31 31 31;")), "0bc 1ab 24bd");
    same("UNLIKE 25", tree(office("0 0 0 0 0;31 31 31 31 31;")), "25ab");
  }

  @Says("those that join what none ahead of them joined")
  static void promise10_whatNoneAheadJoined() {
    same("three of like UNLIKE", tree(office("16 0 0 0 0;4 0 0 0 0;0 0 16 0 0;")), "2ab 2ac");
    same("joined by others", tree(office(filled(0, 1, 2, 10, 11, 12))), "1ab 1bc 1de 1ef 8cd");
  }

  @Says("(ALIKE, APART, LOOSE not asked)")
  static void promise10_notAsked() {
    UnreadSigns x = spaced(4);
    x.alike(0, 3, true);
    x.apart(0, 1, true);
    x.loose(25);
    same("as it is", tree(x), "3ab 3bc 3cd");
    x.loose(0);
    same("as it is", tree(x), "3ab 3bc 3cd");
  }

  @Says("The k-th (0 the first) of the TREE what 0: UNLIKE, 1: the lesser FORM, 2: the other one. NONE without these.")
  static void promise10_withoutThese() {
    UnreadSigns x = close(20);
    due("the first", x.tree(0, 0) * 10000 + x.tree(0, 1) * 100 + x.tree(0, 2), 10001);
    due("the last", x.tree(18, 0) * 10000 + x.tree(18, 1) * 100 + x.tree(18, 2), 11819);
    for (int k : new int[] {-1, -2, 19, 20, Integer.MAX_VALUE, Integer.MIN_VALUE})
      for (int w = 0; w < 3; w++) due("tree " + k + " " + w, x.tree(k, w), -1);
    for (int w : new int[] {-1, 3, Integer.MAX_VALUE, Integer.MIN_VALUE}) {
      due("what " + w, x.tree(0, w), -1);
      due("what " + w, x.tree(18, w), -1);
    }
    due("no FORMS", new UnreadSigns().tree(0, 0), -1);
    due("one FORM", spaced(1).tree(0, 0), -1);
    due("two FORMS", spaced(2).tree(1, 0), -1);
    forms(x, filled(0, 3));
    due("fewer FORMS", x.tree(1, 0), -1);
  }

  // ---- promise 11

  @Says({"LOOSE is 0 to 25 (2 at first).", "LOOSE: what it was"})
  static void promise11_0To25() {
    UnreadSigns x = new UnreadSigns();
    due("2 at first", x.count(6), 2);
    due("0", x.loose(0), 2);
    due("25", x.loose(25), 0);
    due("1", x.loose(1), 25);
    due("24", x.loose(24), 1);
    due("LOOSE", x.count(6), 24);
  }

  @Says("LOOSE: what it was; NONE, and nothing happens, for others (0 to 25)")
  static void promise11_others() {
    for (int n : new int[] {-1, 26, 27, Integer.MAX_VALUE, Integer.MIN_VALUE}) refused("loose " + n, Bench::desk, x -> x.loose(n), -1);
  }

  @Says("for others (0 to 25), or if it is so.")
  static void promise11_itIsSo() {
    refused("1 again", Bench::desk, x -> x.loose(1), -1);
    due("2 at first", new UnreadSigns().loose(2), -1);
    UnreadSigns x = desk();
    x.loose(25);
    due("25 again", x.loose(25), -1);
    x.undo();
    due("1 by undoing", x.loose(1), -1);
  }

  // ---- promises 12 and 13

  @Says("Two FORMS are told ALIKE, or no more: true; false, and nothing happens, if it is so")
  static void promise12_itIsSo() {
    refused("told already", Bench::desk, x -> x.alike(4, 5, true) ? 1 : 0, 0);
    refused("told already, the other one first", Bench::desk, x -> x.alike(5, 4, true) ? 1 : 0, 0);
    refused("not told", Bench::desk, x -> x.alike(2, 3, false) ? 1 : 0, 0);
    refused("told APART, not ALIKE", Bench::desk, x -> x.alike(0, 1, false) ? 1 : 0, 0);
    UnreadSigns x = desk();
    due("no more", x.alike(5, 4, false), true);
    due("no more already", x.alike(4, 5, false), false);
    due("told again", x.alike(5, 4, true), true);
    UnreadSigns y = office(filled(0, 1));
    due("LINKED is not told ALIKE", y.alike(0, 1, false), false);
    due("LINKED, and told ALIKE", y.alike(0, 1, true), true);
  }

  @Says("Two FORMS are told ALIKE, or no more: true; false, and nothing happens, if it is so, or without these (unlike ones).")
  static void promise12_withoutThese() {
    for (boolean is : new boolean[] {true, false}) {
      for (int f : NO_FORMS) {
        refused("alike 0 " + f, Bench::desk, x -> x.alike(0, f, is) ? 1 : 0, 0);
        refused("alike " + f + " 5", Bench::desk, x -> x.alike(f, 5, is) ? 1 : 0, 0);
        refused("alike " + f + " " + f, Bench::desk, x -> x.alike(f, f, is) ? 1 : 0, 0);
      }
      refused("one and the same", Bench::desk, x -> x.alike(2, 2, is) ? 1 : 0, 0);
      due("no FORMS", new UnreadSigns().alike(0, 1, is), false);
    }
    UnreadSigns x = close(20);
    due("the first and the last", x.alike(0, 19, true), true);
    due("the last", x.sign(19), 0);
  }

  @Says("telling one of two FORMS takes the other one away")
  static void promise12_takesApartAway() {
    UnreadSigns x = spaced(3);
    x.apart(0, 1, true);
    due("ALIKE", x.alike(1, 0, true), true);
    same("ALIKE now", signs(x), "aac");
    due("not APART now", x.apart(0, 1, false), false);
    due("ALIKE no more", x.alike(0, 1, false), true);
    x.loose(3);
    same("not APART behind it", signs(x), "aaa");
    due("ACTS", x.count(15), 4);
  }

  @Says("Two FORMS are told APART, or no more: true; false, and nothing happens, if it is so")
  static void promise13_itIsSo() {
    refused("told already", Bench::desk, x -> x.apart(0, 1, true) ? 1 : 0, 0);
    refused("told already, the other one first", Bench::desk, x -> x.apart(1, 0, true) ? 1 : 0, 0);
    refused("not told", Bench::desk, x -> x.apart(2, 3, false) ? 1 : 0, 0);
    refused("told ALIKE, not APART", Bench::desk, x -> x.apart(4, 5, false) ? 1 : 0, 0);
    UnreadSigns x = desk();
    due("no more", x.apart(1, 0, false), true);
    due("no more already", x.apart(0, 1, false), false);
    due("told again", x.apart(1, 0, true), true);
    UnreadSigns y = spaced(2);
    due("not LINKED is not told APART", y.apart(0, 1, false), false);
    due("not LINKED, and told APART", y.apart(0, 1, true), true);
  }

  @Says("Two FORMS are told APART, or no more: true; false, and nothing happens, if it is so, or without these (unlike ones).")
  static void promise13_withoutThese() {
    for (boolean is : new boolean[] {true, false}) {
      for (int f : NO_FORMS) {
        refused("apart 0 " + f, Bench::desk, x -> x.apart(0, f, is) ? 1 : 0, 0);
        refused("apart " + f + " 5", Bench::desk, x -> x.apart(f, 5, is) ? 1 : 0, 0);
        refused("apart " + f + " " + f, Bench::desk, x -> x.apart(f, f, is) ? 1 : 0, 0);
      }
      refused("one and the same", Bench::desk, x -> x.apart(2, 2, is) ? 1 : 0, 0);
      due("no FORMS", new UnreadSigns().apart(0, 1, is), false);
    }
    UnreadSigns x = office(filled(0, 5, 10, 15, 1));
    due("the first and the last", x.apart(4, 0, true), true);
    due("the last", x.sign(4), 4);
  }

  @Says("ALIKE, APART (each is told, or told no more; telling one of two FORMS takes the other one away)")
  static void promise13_takesAlikeAway() {
    UnreadSigns x = spaced(3);
    x.alike(0, 1, true);
    due("APART", x.apart(1, 0, true), true);
    same("APART now", signs(x), "abc");
    due("not ALIKE now", x.alike(0, 1, false), false);
    due("APART no more", x.apart(0, 1, false), true);
    same("not ALIKE behind it", signs(x), "abc");
    due("ACTS", x.count(15), 3);
  }

  // ---- promise 14

  private static String allRows(UnreadSigns x) {
    StringBuilder b = new StringBuilder();
    for (int s = 0; s < x.count(2); s++)
      for (int r = 0; x.read(s, r, -1) != -1; r++) b.append(r > 0 ? "/" : s > 0 ? " " : "").append(row(x, s, r));
    return b.toString();
  }

  @Says({"WAY: 0 all ROWS are read to the right, 1 to the left, 2 of each STONE the first one to the right, the next to the left, and so on",
      "WAY: what it was"})
  static void promise14_eachWay() {
    UnreadSigns x = spaced(6, "ab/cd/ef", "abc/d/ab/cd", "ef");
    due("0", x.way(0), 3);
    same("to the right", allRows(x), "ab/cd/ef abc/d/ab/cd ef");
    due("1", x.way(1), 0);
    same("to the left", allRows(x), "ba/dc/fe cba/d/ba/dc fe");
    due("2", x.way(2), 1);
    same("of each STONE by turns", allRows(x), "ab/dc/ef abc/d/ab/dc ef");
    due("3", x.way(3), 2);
    due("WAY", x.count(7), 3);
  }

  @Says("3 (at first): 0 or 1 as JUDGED.")
  static void promise14_asJudged() {
    UnreadSigns x = spaced(4, "ab/cd.");
    due("3 at first", x.count(7), 3);
    same("judged to the right", allRows(x), "ab/cd");
    stone(x, "ab/.cd");
    stone(x, "ab/.cd");
    same("judged to the left", allRows(x), "ba/dc ba/dc ba/dc");
    x.way(0);
    due("judged, whatever WAY is", x.judged(0), 1);
    same("to the right", allRows(x), "ab/cd ab/cd ab/cd");
    UnreadSigns y = spaced(4, "ab/ac");
    same("by ENDS", allRows(y), "ba/ca");
    y.alike(1, 2, true);
    same("by other SIGNS", allRows(y), "ab/ab");
  }

  @Says("A ROW is read as its SIGNS, empty places left out.")
  static void promise14_emptyPlacesLeftOut() {
    UnreadSigns x = spaced(4, "...abc..../a........./.........b");
    x.way(0);
    same("to the right", allRows(x), "abc/a/b");
    x.way(1);
    same("to the left", allRows(x), "cba/a/b");
    x.alike(0, 2, true);
    same("SIGNS", allRows(x), "aba/a/b");
    due("SIGNS in all ROWS", x.count(4), 5);
  }

  @Says("WAY: what it was; NONE, and nothing happens, for others (0 to 3)")
  static void promise14_others() {
    for (int n : new int[] {-1, 4, 5, Integer.MAX_VALUE, Integer.MIN_VALUE}) refused("way " + n, Bench::desk, x -> x.way(n), -1);
  }

  @Says("for others (0 to 3), or if it is so.")
  static void promise14_itIsSo() {
    refused("0 again", Bench::desk, x -> x.way(0), -1);
    due("3 at first", new UnreadSigns().way(3), -1);
    UnreadSigns x = desk();
    x.way(2);
    due("2 again", x.way(2), -1);
    x.undo();
    due("0 by undoing", x.way(0), -1);
  }

  // ---- promise 15

  private static String judged(UnreadSigns x) {
    StringBuilder b = new StringBuilder();
    for (int w = 0; w < 5; w++) b.append(w == 0 ? "" : " ").append(x.judged(w));
    return b.toString();
  }

  @Says("RAGGED RIGHT: how many STONES of two ROWS at least have more empty places at the right end of the last ROW than at its left one")
  static void promise15_raggedRight() {
    due("one ROW is too few", spaced(4, "a..").judged(1), 0);
    due("two ROWS", spaced(4, "a/b.").judged(1), 1);
    due("four ROWS", spaced(4, "a/b/c/d.").judged(1), 1);
    due("as many at both ends", spaced(4, "a/.b.").judged(1), 0);
    due("none at both ends", spaced(4, "a/b").judged(1), 0);
    due("one more", spaced(4, "a/.b..").judged(1), 1);
    due("one less", spaced(4, "a/..b.").judged(1), 0);
    due("the last ROW alone", spaced(4, "a../b../c").judged(1), 0);
    due("nine more", spaced(4, "a/b.........").judged(1), 1);
    due("six STONES", spaced(4, "a/b.", "a/b.", "a/b.", "a/b.", "a/b.", "a/b.").judged(1), 6);
    due("some of the STONES", spaced(4, "a/b.", "a/.b", "a.", "a/b..").judged(1), 2);
  }

  @Says("RAGGED LEFT likewise.")
  static void promise15_raggedLeft() {
    due("one ROW is too few", spaced(4, "..a").judged(2), 0);
    due("two ROWS", spaced(4, "a/.b").judged(2), 1);
    due("as many at both ends", spaced(4, "a/.b.").judged(2), 0);
    due("none at both ends", spaced(4, "a/b").judged(2), 0);
    due("one more", spaced(4, "a/..b.").judged(2), 1);
    due("one less", spaced(4, "a/.b..").judged(2), 0);
    due("the last ROW alone", spaced(4, "..a/..b/c").judged(2), 0);
    due("nine more", spaced(4, "a/.........b").judged(2), 1);
    due("six STONES", spaced(4, "a/.b", "a/.b", "a/.b", "a/.b", "a/.b", "a/.b").judged(2), 6);
    UnreadSigns x = spaced(4, "a/.b", "a/b.");
    for (int loose = 3; loose < 6; loose++) {
      x.loose(loose);
      due("the same, whatever LOOSE is", x.judged(1) * 10 + x.judged(2), 11);
    }
  }

  @Says("ENDS RIGHT: how many unlike SIGNS stand at right ends of ROWS (the last that is no empty place), ENDS LEFT likewise.")
  static void promise15_ends() {
    UnreadSigns x = spaced(6, ".ab../ac", "db", "e");
    due("right: b c e", x.judged(3), 3);
    due("left: a d e", x.judged(4), 3);
    x.alike(1, 2, true);
    due("right: b e", x.judged(3), 2);
    x.alike(0, 3, true);
    x.alike(0, 4, true);
    due("left: a", x.judged(4), 1);
    due("right: b a", x.judged(3), 2);
    UnreadSigns y = close(20, "ab/cd/ef/gh", "ij/kl/mn/op", "qr/st", "ta");
    due("right", y.judged(3), 11);
    due("left", y.judged(4), 11);
    UnreadSigns z = close(20, "a/b/c/d", "e/f/g/h", "i/j/k/l", "m/n/o/p", "q/r/s/t");
    due("twenty", z.judged(3), 20);
    due("twenty", z.judged(4), 20);
    UnreadSigns w = spaced(4, "ab/ac");
    for (int way : new int[] {0, 1, 2}) {
      w.way(way);
      due("right, whatever WAY is", w.judged(3), 2);
      due("left, whatever WAY is", w.judged(4), 1);
    }
  }

  @Says("Is one of RAGGED RIGHT and LEFT more, it is read to that side")
  static void promise15_byRagged() {
    same("right, though ENDS LEFT is less", judged(spaced(4, "ab/ac.")), "0 1 0 2 1");
    same("left, though ENDS RIGHT is less", judged(spaced(4, "ba/.ca")), "1 0 1 1 2");
    same("two and one", judged(spaced(4, "ab/ac.", "ab/ad.", "a/.a")), "0 2 1 4 1");
    same("one and two", judged(spaced(4, "ba/.ca", "ba/.da", "a/a.")), "1 1 2 1 4");
  }

  @Says("else, is one of ENDS RIGHT and LEFT less, it is read to that side")
  static void promise15_byEnds() {
    same("left is less", judged(spaced(4, "ab/ac")), "1 0 0 2 1");
    same("right is less", judged(spaced(4, "ba/ca")), "0 0 0 1 2");
    same("RAGGED is even", judged(spaced(4, "ab/ac.", "ad/.ab")), "1 1 1 3 1");
    same("RAGGED is even", judged(spaced(4, "ba/ca.", "da/.ba")), "0 1 1 1 3");
  }

  @Says("else to the right.")
  static void promise15_elseToTheRight() {
    same("no STONES", judged(new UnreadSigns()), "0 0 0 0 0");
    same("all even", judged(spaced(4, "ab/ba")), "0 0 0 2 2");
    same("all even", judged(spaced(4, "ab/ba.", "cd/.dc")), "0 1 1 4 4");
  }

  @Says("JUDGED what 0: 0 to the right, 1 to the left, 1: RAGGED RIGHT, 2: RAGGED LEFT, 3: ENDS RIGHT, 4: ENDS LEFT. NONE for others.")
  static void promise15_others() {
    UnreadSigns x = spaced(4, "ab/ac.", "ab/ad.", "a/.a");
    for (int w : new int[] {-1, -2, 5, 6, Integer.MAX_VALUE, Integer.MIN_VALUE}) due("judged " + w, x.judged(w), -1);
    due("without STONES", new UnreadSigns().judged(5), -1);
  }

  // ---- promise 16

  @Says("The k-th (0 the first) SIGN of a ROW of a STONE, as it is read; k NONE: how many.")
  static void promise16_theKth() {
    UnreadSigns x = spaced(4, "abcdabcdab", "d");
    x.way(0);
    due("how many", x.read(0, 0, -1), 10);
    for (int k = 0; k < 10; k++) due("sign " + k, x.read(0, 0, k), k % 4);
    due("how many of the next STONE", x.read(1, 0, -1), 1);
    x.way(1);
    for (int k = 0; k < 10; k++) due("to the left " + k, x.read(0, 0, k), (9 - k) % 4);
    UnreadSigns y = spaced(4, "a", "a", "a", "a", "a", "a/b/c/d");
    due("the last ROW of the last STONE", y.read(5, 3, 0), 3);
  }

  @Says("as it is read; k NONE: how many. NONE without these.")
  static void promise16_withoutThese() {
    UnreadSigns x = spaced(4, "abc/ab", "d");
    x.way(0);
    for (int k : new int[] {-2, 3, 4, 10, Integer.MAX_VALUE, Integer.MIN_VALUE}) due("k " + k, x.read(0, 0, k), -1);
    due("k 2 of a ROW of 2", x.read(0, 1, 2), -1);
    for (int r : new int[] {-1, 2, 3, 4, Integer.MAX_VALUE, Integer.MIN_VALUE})
      for (int k = -1; k < 2; k++) due("row " + r, x.read(0, r, k), -1);
    due("row 1 of a STONE of 1", x.read(1, 1, -1), -1);
    for (int s : new int[] {-1, 2, 5, 6, 7, Integer.MAX_VALUE, Integer.MIN_VALUE})
      for (int k = -1; k < 2; k++) due("stone " + s, x.read(s, 0, k), -1);
    due("no STONES", new UnreadSigns().read(0, 0, -1), -1);
  }
}
