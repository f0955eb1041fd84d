/** For each promise of the document: ordinary inputs, the edges that it names, and wrong inputs. */
public final class PromiseTests extends Bench {
  // ---- the promises

  private static void aNewObject() {
    UnreadSigns x = new UnreadSigns();
    int[] due = {0, 0, 0, 0, 0, 0, 2, 3, 2, 0, 0, 0, 0, 0, 0, 0, 0, 0};
    for (int i = 0; i < due.length; i++) due("count " + i, x.count(i), due[i]);
    due("NONE", UnreadSigns.NONE, -1);
    due("two objects", new UnreadSigns().feed(1, 2, 3, 4, 5), new UnreadSigns().feed(1, 2, 3, 4, 5));
  }

  private static void feed() {
    UnreadSigns x = new UnreadSigns();
    for (int n = 1; n <= 15; n++) due("feed", x.feed(-1, 0, 1, 2, 3), 20 * n);
    due("feed beyond 300", x.feed(0, 0, 0, 0, 0), -1);
    due("bytes", x.count(17), 300);
    due("end", x.end(281), 281);
    due("feed beyond 300", x.feed(0, 0, 0, 0, 0), -1);
    due("end", x.end(280), 280);
    due("feed", x.feed(0, 0, 0, 0, 0), 300);
    x.end(0);
    due("feed", x.feed(0x6b616d6f, 0x74690000, 0, 0, 0), 20);
    x.end(6);
    due("the highest byte first", x.name(), 0);
    due("all five numbers", x.feed(0x6b616d6f, 0x7469706f, 0x7765726f, 0, 0x61000000), 20);
    x.end(12);
    due("name", x.name(), 1);
    due("bytes above 127", x.feed(0xe1000000, 0, 0, 0, 0), 20);
    x.end(1);
    due("a byte that is no consonant", x.name(), fault(0, 1));
  }

  private static void end() {
    UnreadSigns x = new UnreadSigns();
    due("end 0", x.end(0), 0);
    due("end 1", x.end(1), -1);
    x.feed(0x6b610000, 0, 0, 0, 0);
    due("end -1", x.end(-1), -1);
    due("end 21", x.end(21), -1);
    due("bytes", x.count(17), 20);
    due("end 20", x.end(20), 20);
    due("end 7", x.end(7), 7);
    due("end 8", x.end(8), -1);
    due("bytes", x.count(17), 7);
    due("end most", x.end(Integer.MAX_VALUE), -1);
    due("end least", x.end(Integer.MIN_VALUE), -1);
  }

  private static void formsTold() {
    UnreadSigns x = new UnreadSigns();
    due("no form", forms(x, ""), 0);
    due("blanks alone", forms(x, "   "), 0);
    due("one form", forms(x, "31 0 16 1 7;"), 1);
    due("blanks", forms(x, "  31  0 16 1 007 ;  1 2 3 4 5  ;  "), 2);
    due("many digits", forms(x, "000000000000000000000000000031 0 0 0 0;"), 1);
    String[] texts = {"31 0 16 1 7", "31 0 16 1 ;", "31 0 16 1 7 7;", ";", "31 0 16 1 7;;", "31 0 16 1 7;x", "31,0 16 1 7;",
        "-1 0 0 0 0;", "32 0 0 0 0;", "0 0 0 0 99;", "0 0 0 0 4294967296;", " 32", "0 0 32 x", "1 2 3 4 5; 1 2 3 4 5;",
        "1 2 3 4 5;01 2 3 4 5 ;x", "1 2 3 4 5;1 2 3 4 5x", "1 2 3 4 5;1 2 3 4 5", "1 2 3 4 5 ", "\t1 2 3 4 5;"};
    int[] faults = {fault(11, 1), fault(10, 1), fault(12, 1), fault(0, 1), fault(12, 1), fault(12, 1), fault(2, 1),
        fault(0, 1), fault(0, 2), fault(8, 2), fault(8, 2), fault(1, 2), fault(4, 2), fault(11, 4),
        fault(10, 4), fault(19, 1), fault(19, 1), fault(10, 1), fault(0, 1)};
    for (int i = 0; i < texts.length; i++) {
      due("forms " + texts[i], forms(x, texts[i]), faults[i]);
      due("the TAPE behind it", x.count(17), 0);
      due("the forms behind it", x.count(0), 1);
    }
    StringBuilder b = new StringBuilder();
    for (int i = 1; i <= 20; i++) b.append(i).append(" 0 0 0 0;");
    int n = b.length();
    due("twenty", forms(x, b.toString()), 20);
    due("a 21st", forms(x, b + "21 0 0 0 0;"), fault(n, 3));
    due("a 21st behind a blank", forms(x, b + " 21 0 0 0 0;"), fault(n + 1, 3));
    due("a 21st that begins", forms(x, b + "2"), fault(n, 3));
    due("a 21st that is too great", forms(x, b + "32"), fault(n, 2));
    due("a 21st told already", forms(x, b + "1 0 0 0 0;"), fault(n, 3));
    due("no 21st", forms(x, b + " ;"), fault(n + 1, 1));
    due("blanks at the end", forms(x, b + "  "), 20);
    whatFormsEnd();
  }

  private static void whatFormsEnd() {
    UnreadSigns x = spaced(4, "abc/abd");
    name(x, "kamo");
    x.draws(5);
    x.loose(7); x.way(1); x.rise(3); x.loose(0);
    due("clue", x.clue(0, 1, true), 1);
    due("guess", x.guess(0, 1, 1), 0);
    x.apart(0, 1, true);
    due("a text with a fault", forms(x, "x"), fault(0, 1));
    int[] kept = {4, 4, 1, 2, 6, 2, 0, 1, 3, 1};
    for (int i = 0; i < kept.length; i++) due("kept " + i, x.count(i), kept[i]);
    due("acts kept", x.count(15), 7);
    due("forms", forms(x, "1 0 0 0 0;3 0 0 0 0;"), 2);
    int[] due = {2, 1, 0, 0, 0, 0, 2, 3, 2, 1, 1, 1, 0, 0, 0, 0, 5, 0};
    for (int i = 0; i < due.length; i++) due("anew " + i, x.count(i), due[i]);
    due("nothing is told APART", x.apart(0, 1, false), false);
    due("undo", x.undo(), -1);
    due("no forms again", forms(x, " "), 0);
    due("forms", x.count(0), 0);
    due("a stone of no forms", stone(x, "a"), fault(0, 2));
    x = spaced(4, "ab");
    x.loose(7);
    due("no forms in place of some", forms(x, ""), 0);
    due("no stones, no acts", x.count(2) + x.count(3) + x.count(4) + x.count(5) + x.count(15), 0);
    due("LOOSE", x.count(6), 2);
  }

  private static void stoneTold() {
    UnreadSigns x = spaced(9);
    String[] texts = {"", "j", "z", "{", "`", "A", ".", "..a./", "a.b", "a//b", "/a", "a b", "a/b/c/d/e", "a/b/c/d/.", "a/b/c/d/j",
        "a/b/c/d/", "a/b/c/d//", "a/b/c/d/A", "abcdefghiab", "abcdefghia.", "..........", "...........", "..........a",
        "abcdefghiaj", ".........ab", "a..........", "abcdefghi.j", "abcdefghi.a", "a/.", "abc/ab..cd"};
    int[] faults = {fault(0, 1), fault(0, 2), fault(0, 2), fault(0, 1), fault(0, 1), fault(0, 1), fault(1, 1), fault(5, 1), fault(2, 1),
        fault(2, 1), fault(0, 1), fault(1, 1), fault(8, 3), fault(8, 3), fault(8, 2), fault(8, 1), fault(8, 1), fault(8, 1),
        fault(10, 3), fault(10, 3), fault(10, 1), fault(10, 3), fault(10, 3), fault(10, 2), fault(10, 3), fault(10, 3),
        fault(10, 1), fault(10, 1), fault(3, 1), fault(8, 1)};
    for (int i = 0; i < texts.length; i++) {
      due("stone " + texts[i], stone(x, texts[i]), faults[i]);
      due("the TAPE behind it", x.count(17), 0);
      due("stones behind it", x.count(2) + x.count(3) + x.count(4), 0);
    }
    due("loose", x.loose(0), 2);
    due("a fault", stone(x, "?"), fault(0, 1));
    due("acts stay", x.count(15), 1);
    due("ten places", stone(x, "abcdefghia/....a...../.........i/a........."), 0);
    due("none can be undone", x.undo(), -1);
    due("loose stays", x.count(6), 0);
    for (int i = 1; i < 6; i++) due("stone", stone(x, ".a/b."), i);
    due("rows", x.count(3), 14);
    due("a seventh", stone(x, "a"), -1);
    due("the TAPE stays", x.count(17), 1);
    due("a seventh with a fault", stone(x, "??"), -1);
    due("the TAPE stays", x.count(17), 2);
    due("stones", x.count(2), 6);
  }

  private static void nameTold() {
    UnreadSigns x = new UnreadSigns();
    String[] texts = {"", "k", "ka", "kam", "kamoti ", "ak", "kk", "kata.", "kakakakakakakaka", "kakakakakakakak", "kakakakakakakaa",
        "kakakakakakaka ", "kakakakakakakakx", "Kata", "katy", "qata", "kat\351"};
    int[] faults = {fault(0, 1), fault(1, 1), fault(2, 1), fault(3, 1), fault(6, 1), fault(0, 1), fault(1, 1), fault(4, 1),
        fault(14, 2), fault(14, 2), fault(14, 1), fault(14, 1), fault(14, 2), fault(0, 1), fault(3, 1), fault(0, 1), fault(3, 1)};
    for (int i = 0; i < texts.length; i++) {
      due("name " + texts[i], name(x, texts[i]), faults[i]);
      due("the TAPE behind it", x.count(17) + x.count(9), 0);
    }
    due("two syllables", name(x, "pate"), 0);
    due("told already", name(x, "pate"), fault(0, 3));
    UnreadSigns y = new UnreadSigns();
    String[] near = {"pate", "kate", "pati", "patepa"};
    for (int i = 0; i < 4; i++) due("nearly the same", name(y, near[i]), i);
    due("told already, with a fault", name(x, "patex"), fault(4, 1));
    due("seven syllables", name(x, "kimonurulesawi"), 1);
    x.loose(3);
    due("a beginning of another one", name(x, "kimo"), 2);
    due("acts stay", x.count(15), 1);
    due("names", x.count(9), 3);
    due("the same vowels", name(x, "jujo"), 3);
    due("a fifth", name(x, "pate"), -1);
    due("the TAPE stays", x.count(17), 4);
    due("a fifth with a fault", name(x, "p"), -1);
    due("the TAPE stays", x.count(17), 1);
  }

  private static void unlike() {
    UnreadSigns x = spaced(9);
    for (int i = 0; i < 9; i++) for (int j = 0; j < 9; j++) due("unlike", x.unlike(i, j), 3 * Math.abs(i - j));
    for (int f : new int[] {-1, 9, 20, 400, Integer.MAX_VALUE, Integer.MIN_VALUE}) {
      due("unlike " + f, x.unlike(0, f), -1);
      due("unlike " + f, x.unlike(f, 0), -1);
      due("unlike " + f, x.unlike(f, f), -1);
    }
    // One place in a corner comes in at the other side, but by one place alone.
    forms(x, "16 0 0 0 0;0 0 0 0 1;0 0 0 0 2;0 4 0 0 0;0 0 0 1 0;8 0 0 0 0;0 16 0 0 0;1 0 0 0 0;0 0 0 0 16;0 1 0 0 0;");
    int[] due = {0, 0, 2, 2, 2, 0, 0, 0, 0, 0};
    for (int i = 0; i < due.length; i++) {
      due("corner " + i, x.unlike(0, i), due[i]);
      due("corner " + i, x.unlike(i, 0), due[i]);
    }
    forms(x, "31 31 31 31 31;0 0 0 0 0;21 10 21 10 21;10 21 10 21 10;1 2 4 8 16;16 8 4 2 1;");
    due("all and none", x.unlike(0, 1), 25);
    due("all and a board", x.unlike(0, 2), 12);
    due("none and a board", x.unlike(1, 2), 13);
    // Shifted by one, each row of a board has two like places side by side where it goes round.
    due("two boards", x.unlike(2, 3), 5);
    due("two slopes", x.unlike(4, 5), 8);
  }

  private static void sign() {
    UnreadSigns x = spaced(9);
    for (int i = 0; i < 9; i++) due("sign", x.sign(i), i);
    due("sign 9", x.sign(9), -1);
    due("sign -1", x.sign(-1), -1);
    x.loose(3);
    for (int i = 0; i < 9; i++) due("all one by links", x.sign(i), 0);
    x.apart(4, 3, true);
    for (int i = 0; i < 9; i++) due("two by APART", x.sign(i), i < 4 ? 0 : 4);
    x.alike(8, 0, true);
    for (int i = 0; i < 9; i++) due("one by ALIKE", x.sign(i), 0);
    x.loose(2);
    due("ALIKE beyond LOOSE", x.sign(8), 0);
    due("not LOOSE enough", x.sign(1), 1);
    x.alike(8, 7, true);
    due("by two links", x.sign(7), 0);
    UnreadSigns y = close(5);
    y.loose(2); y.apart(0, 1, true);
    due("APART, but linked by others", y.sign(1), 0);
  }

  private static void size() {
    UnreadSigns x = spaced(9);
    x.alike(2, 5, true); x.alike(5, 7, true);
    int[] due = {1, 1, 3, 1, 1, 3, 1, 3, 1};
    for (int i = 0; i < 9; i++) due("size " + i, x.size(i), due[i]);
    due("signs", x.count(1), 7);
    due("size 9", x.size(9), -1);
    due("size -1", x.size(-1), -1);
    due("size of a new one", new UnreadSigns().size(0), -1);
  }

  private static void tree() {
    UnreadSigns x = office(new StringBuilder(filled(20) + filled(3) + filled(10) + filled(4) + filled(9) + filled(21)));
    int[][] due = {{1, 0, 5}, {1, 1, 3}, {1, 2, 4}, {5, 3, 4}, {10, 0, 2}};
    for (int round = 0; round < 2; round++) {
      for (int k = 0; k < 5; k++) for (int w = 0; w < 3; w++) due("tree " + k + " " + w, x.tree(k, w), due[k][w]);
      due("behind the last", x.tree(5, 0), -1);
      due("ahead of the first", x.tree(-1, 0), -1);
      due("what 3", x.tree(0, 3), -1);
      due("what -1", x.tree(0, -1), -1);
      x.alike(0, 1, true); x.apart(0, 5, true); x.loose(25);
    }
    UnreadSigns y = spaced(5);
    for (int k = 0; k < 4; k++) due("of like ones the lesser", y.tree(k, 1) * 10 + y.tree(k, 2), k * 10 + k + 1);
    UnreadSigns z = office(new StringBuilder("0 0 0 0 0;31 31 31 31 31;"));
    due("as unlike as can be", z.tree(0, 0) * 100 + z.tree(0, 1) * 10 + z.tree(0, 2), 2501);
    due("alike but for a shift", office(new StringBuilder("0 0 0 0 1;0 0 0 2 0;")).tree(0, 0), 0);
    due("one form", office(new StringBuilder(filled(3))).tree(0, 0), -1);
  }

  private static void loose() {
    UnreadSigns x = spaced(3);
    due("as it is", x.loose(2), -1);
    due("below", x.loose(-1), -1);
    due("above", x.loose(26), -1);
    due("no act", x.count(15), 0);
    due("to 25", x.loose(25), 2);
    due("to 0", x.loose(0), 25);
    due("as it is", x.loose(0), -1);
    due("acts", x.count(15), 2);
    due("loose", x.count(6), 0);
    x.loose(5);
    due("below the least", x.count(1), 1);
    x.loose(3);
    due("just enough", x.count(1), 1);
    x.loose(2);
    due("not enough", x.count(1), 3);
  }

  private static void alike() {
    UnreadSigns x = spaced(4);
    due("not told yet", x.alike(0, 1, false), false);
    due("of itself", x.alike(1, 1, true), false);
    due("not there", x.alike(0, 4, true), false);
    due("not there", x.alike(-1, 0, true), false);
    due("no act", x.count(15), 0);
    due("told", x.alike(3, 1, true), true);
    due("so", x.alike(1, 3, true), false);
    due("sign", x.sign(3), 1);
    due("APART is another thing", x.apart(1, 3, false), false);
    due("APART takes it away", x.apart(1, 3, true), true);
    due("taken away", x.alike(1, 3, false), false);
    due("sign", x.sign(3), 3);
    due("told again", x.alike(1, 3, true), true);
    due("APART taken away", x.apart(1, 3, false), false);
    due("no more", x.alike(3, 1, false), true);
    due("sign", x.sign(3), 3);
    due("acts", x.count(15), 4);
  }

  private static void apart() {
    UnreadSigns x = close(3);
    x.loose(1);
    due("not told yet", x.apart(0, 1, false), false);
    due("of itself", x.apart(2, 2, true), false);
    due("not there", x.apart(3, 0, true), false);
    due("not there", x.apart(0, -1, true), false);
    due("told", x.apart(2, 1, true), true);
    due("so", x.apart(1, 2, true), false);
    due("sign", x.sign(2), 2);
    due("ALIKE takes it away", x.alike(1, 2, true), true);
    due("sign", x.sign(2), 0);
    due("taken away", x.apart(1, 2, false), false);
    due("told again", x.apart(1, 2, true), true);
    due("no more", x.apart(2, 1, false), true);
    due("sign", x.sign(2), 0);
    due("nor ALIKE", x.alike(1, 2, false), false);
    due("acts", x.count(15), 6);
  }

  private static void way() {
    UnreadSigns x = spaced(6, "abc/.bcd/e.", "def");
    due("as it is", x.way(3), -1);
    due("above", x.way(4), -1);
    due("below", x.way(-1), -1);
    due("judged", x.judged(0), 0);
    same("as judged", row(x, 0, 0) + row(x, 0, 1) + row(x, 1, 0), "abcbcddef");
    due("to the left", x.way(1), 3);
    same("to the left", row(x, 0, 0) + row(x, 0, 1) + row(x, 0, 2) + row(x, 1, 0), "cbadcbefed");
    due("by turns", x.way(2), 1);
    same("by turns", row(x, 0, 0) + row(x, 0, 1) + row(x, 0, 2) + row(x, 1, 0), "abcdcbedef");
    due("to the right", x.way(0), 2);
    same("to the right", row(x, 0, 0) + row(x, 0, 1) + row(x, 0, 2) + row(x, 1, 0), "abcbcdedef");
    due("as it is", x.way(0), -1);
    due("acts", x.count(15), 3);
    UnreadSigns y = spaced(4, "abc/.bcd");
    due("judged to the left", y.judged(0), 1);
    same("as judged", row(y, 0, 0) + row(y, 0, 1), "cbadcb");
  }

  private static void judged(UnreadSigns x, int... due) {
    for (int i = 0; i < 5; i++) due("judged " + i, x.judged(i), due[i]);
  }

  private static void judged() {
    judged(new UnreadSigns(), 0, 0, 0, 0, 0);
    judged(spaced(4, "a..", "..b."), 0, 0, 0, 2, 2);
    judged(spaced(4, "..a/b."), 0, 1, 0, 2, 2);
    judged(spaced(4, "a../.b"), 1, 0, 1, 2, 2);
    judged(spaced(4, ".a/.b..", ".c/.d.", "ab/.c", "ab/..a."), 1, 1, 2, 4, 4);
    // Two ways of being RAGGED are even: ENDS tell, the fewer ones.
    judged(spaced(4, "ab/cb."), 0, 1, 0, 1, 2);
    judged(spaced(4, "ab/cb", "db"), 0, 0, 0, 1, 3);
    judged(spaced(4, "ab/ac", "..ad"), 1, 0, 0, 3, 1);
    judged(spaced(4, "ab/.ac.", "ad"), 1, 0, 0, 3, 1);
    judged(spaced(4, "ab/ac.", "ad"), 0, 1, 0, 3, 1);
    UnreadSigns x = spaced(4, "ab/ac");
    judged(x, 1, 0, 0, 2, 1);
    x.alike(1, 2, true);
    judged(x, 0, 0, 0, 1, 1);
    x.way(1);
    judged(x, 0, 0, 0, 1, 1);
    due("what 5", x.judged(5), -1);
    due("what -1", x.judged(-1), -1);
  }

  private static void read() {
    UnreadSigns x = spaced(5, "..abc./d", "e");
    due("how many", x.read(0, 0, -1), 3);
    for (int k = 0; k < 3; k++) due("sign", x.read(0, 0, k), k);
    due("behind the last", x.read(0, 0, 3), -1);
    due("ahead of the first", x.read(0, 0, -2), -1);
    due("the next row", x.read(0, 1, 0), 3);
    due("no such row", x.read(0, 2, -1), -1);
    due("no such row", x.read(0, -1, -1), -1);
    due("the next stone", x.read(1, 0, -1), 1);
    due("no such row", x.read(1, 1, 0), -1);
    due("no such stone", x.read(2, 0, -1), -1);
    due("no such stone", x.read(-1, 0, -1), -1);
    x.alike(0, 4, true);
    due("the sign of it", x.read(1, 0, 0), 0);
    due("a fault", stone(x, "ab/cd/?"), fault(6, 1));
    due("leaves no rows", x.read(2, 0, -1), -1);
    due("leaves no rows", x.read(1, 1, -1), -1);
  }

  private static void comes() {
    UnreadSigns x = spaced(6, "aaaa/baab", "abcde/cabab");
    x.way(0);
    due("a", comes(x, "a"), 9);
    due("overlapping", comes(x, "aa"), 4);
    due("aaa", comes(x, "aaa"), 2);
    due("not across rows", comes(x, "ac"), 0);
    due("ab", comes(x, "ab"), 4);
    due("five", comes(x, "abcde"), 1);
    due("seven", comes(x, "aaaaaaa"), 0);
    due("eight", comes(x, "aaaaaaaa"), -1);
    due("none", comes(x, ""), -1);
    due("no form", comes(x, "ag"), -1);
    due("no letter", comes(x, "a."), -1);
    due("A", comes(x, "A"), -1);
    due("the TAPE is empty", x.count(17), 0);
    comes(x, "a?");
    due("the TAPE is empty", x.count(17), 0);
    x.alike(2, 5, true);
    due("any forms of its signs", comes(x, "abf"), 1);
    x.way(1);
    due("as it is read", comes(x, "edc"), 1);
    due("as it is read", comes(x, "abc"), 0);
  }

  private static void next() {
    UnreadSigns x = spaced(6, "abac/abad", "ab", "acef");
    x.way(0);
    due("a", next(x, "a"), 3);
    due("ab, at an end too", next(x, "ab"), 2);
    due("aba", next(x, "aba"), 2);
    due("ends alone", next(x, "abac"), 1);
    due("nowhere", next(x, "bb"), 0);
    due("f", next(x, "f"), 1);
    due("c", next(x, "c"), 2);
    due("eight", next(x, "abababab"), -1);
    due("none", next(x, ""), -1);
    due("no form", next(x, "g"), -1);
    due("the TAPE is empty", x.count(17), 0);
    x.alike(1, 2, true);
    due("signs, not forms", next(x, "a"), 2);
    x.way(1);
    due("as it is read", next(x, "b"), 1);
  }

  private static void rise() {
    UnreadSigns x = spaced(7, "cde/cdf/gde");
    due("as it is", x.rise(2), -1);
    due("below", x.rise(0), -1);
    due("above", x.rise(10), -1);
    same("rise 2", lexicon(x), "cd2 e1 f1 gde1");
    due("to 3", x.rise(3), 2);
    same("rise 3", lexicon(x), "cde1 cdf1 gde1");
    due("to 9", x.rise(9), 3);
    due("to 1", x.rise(1), 9);
    same("rise 1", lexicon(x), "cd2 e1 f1 gde1");
    due("count", x.count(8), 1);
    due("acts", x.count(15), 3);
  }

  private static void words() {
    due("none", new UnreadSigns().words(), 0);
    due("one", spaced(3, "a").words(), 1);
    UnreadSigns x = spaced(9, "abcdefghia");
    same("seven signs at most", lexicon(x), "abcdefg1 hia1");
    due("all", x.count(5), 2);
    x = spaced(9, "abcabcabca");
    // NEXT of a is 2 (b, the end), of ab and abc 1, of abca 2 again; of b and bc 1, of bca 2.
    same("more than just ahead of it", lexicon(x), "abca1 bca2");
    x = spaced(9, "ab/acc/abb");
    x.way(0);
    // NEXT of a is 2 (b, c), of ab 2 (the end, b): no more.
    same("no more than ahead of it", lexicon(x), "ab1 abb1 acc1");
    x = spaced(9, "abc/abd/ab/b");
    x.way(0); x.rise(3);
    // NEXT of a is 1, of ab 3 (c, d, the end).
    same("cut", lexicon(x), "ab3 b1 c1 d1");
    due("words", x.words(), 4);
    due("all", x.count(5), 6);
    x.alike(2, 3, true);
    same("other signs, other words", lexicon(x), "ab1 abc2 b1");
    x.way(1);
    same("another way", lexicon(x), "b1 ba1 cba2");
  }

  private static void word() {
    UnreadSigns x = spaced(9, "abcdefghia/b/b");
    x.way(0);
    int[][] due = {{1, 7, 0, 1, 2, 3, 4, 5, 6}, {2, 1, 1, -1, -1, -1, -1, -1, -1}, {1, 3, 7, 8, 0, -1, -1, -1, -1}};
    for (int k = 0; k < 3; k++) for (int w = 0; w < 9; w++) due("word " + k + " " + w, x.word(k, w), due[k][w]);
    for (int w : new int[] {-1, -2, 9, 10, Integer.MAX_VALUE, Integer.MIN_VALUE}) due("what " + w, x.word(0, w), -1);
    for (int k : new int[] {-1, 3, 120, Integer.MAX_VALUE, Integer.MIN_VALUE}) due("word " + k, x.word(k, 0), -1);
    UnreadSigns y = spaced(9, "b/ab/a/aab");
    y.way(0); y.rise(9);
    same("a beginning ahead of what goes on", lexicon(y), "a1 aab1 ab1 b1");
  }

  private static void rank() {
    UnreadSigns x = spaced(9, "c/c/b/a", "b/d/e/e", "e");
    x.way(0);
    same("lexicon", lexicon(x), "a1 b2 c2 d1 e3");
    int[] due = {4, 1, 2, 0, 3};
    for (int k = 0; k < 5; k++) due("rank " + k, x.rank(k), due[k]);
    due("rank -1", x.rank(-1), -1);
    due("rank 5", x.rank(5), -1);
  }

  private static void stands() {
    UnreadSigns x = spaced(9, "aba/ab/aba", "baa");
    x.way(0); x.rise(9);
    same("lexicon", lexicon(x), "ab1 aba2 baa1");
    int[][] due = {{7, 3, 3, 3}, {4, 1, 1, 3}, {0, 0, 0, 0}};
    for (int f = 0; f < 3; f++) for (int w = 0; w < 4; w++) due("stands " + f + " " + w, x.stands(f, w), due[f][w]);
    due("what 4", x.stands(0, 4), -1);
    due("what -1", x.stands(0, -1), -1);
    due("form 9", x.stands(9, 0), -1);
    due("form -1", x.stands(-1, 0), -1);
    x.alike(1, 8, true);
    due("any form of it", x.stands(8, 0), 4);
  }

  private static void ahead() {
    UnreadSigns x = spaced(9, "aab/aaa", "ba");
    x.way(0);
    due("a a", x.ahead(0, 0), 3);
    due("a b", x.ahead(0, 1), 1);
    due("b a", x.ahead(1, 0), 1);
    due("b b", x.ahead(1, 1), 0);
    due("form 9", x.ahead(0, 9), -1);
    due("form -1", x.ahead(-1, 0), -1);
    x.way(1);
    due("a b to the left", x.ahead(0, 1), 1);
    due("b a to the left", x.ahead(1, 0), 1);
    x.alike(0, 1, true);
    due("one sign", x.ahead(1, 0), 5);
  }

  private static void stem() {
    UnreadSigns x = spaced(9, "aba/abc/abcd/abce", "abcde/abcdf/ba/bc", "cab/dab/eba/ebab");
    x.way(0); x.rise(9);
    int[][] due = {{2, 5, 2, 0, 1, -1, -1, -1, -1}, {2, 24, 3, 0, 1, 2, -1, -1, -1}, {2, 48, 4, 0, 1, 2, 3, -1, -1}};
    due("how many", x.stem(-1, 77), 3);
    due("how many", x.stem(-1, -5), 3);
    for (int k = 0; k < 3; k++) for (int w = 0; w < 9; w++) due("stem " + k + " " + w, x.stem(k, w), due[k][w]);
    for (int w : new int[] {-1, 9, 10, Integer.MAX_VALUE, Integer.MIN_VALUE}) due("what " + w, x.stem(0, w), -1);
    for (int k : new int[] {-2, 3, Integer.MAX_VALUE, Integer.MIN_VALUE}) due("stem " + k, x.stem(k, 0), -1);
    UnreadSigns y = spaced(9, "abcdefg/abcdefh/abcdefi");
    y.way(0); y.rise(9);
    UnreadSigns z = spaced(9, "abcd/abce/abe/abf", "ace/acf");
    z.way(0); z.rise(9);
    // abcd stands ahead of abe, but the STEM ab ahead of abc.
    int[] stems = {48, 24, 48};
    for (int k = 0; k < 3; k++) due("in the order of letters", z.stem(k, 1) * 10 + z.stem(k, 2), stems[k] * 10 + (k == 1 ? 3 : 2));
    due("how many", z.stem(-1, 0), 3);
    int[] six = {3, 64 + 128 + 256, 6, 0, 1, 2, 3, 4, 5};
    for (int w = 0; w < 9; w++) due("six signs " + w, y.stem(0, w), six[w]);
  }

  private static void clue() {
    UnreadSigns x = close(20, "ab");
    due("a line", x.clue(0, 1, false), 1);
    due("told already", x.clue(0, 1, false), -1);
    due("whichever first", x.clue(1, 0, false), -1);
    due("a file is another one", x.clue(1, 0, true), 2);
    due("told already", x.clue(0, 1, true), -1);
    due("of itself", x.clue(3, 3, false), -1);
    due("not there", x.clue(0, 20, false), -1);
    due("not there", x.clue(-1, 0, true), -1);
    due("acts, and LOOSE", x.count(15), 3);
    x.alike(4, 5, true);
    due("of one sign", x.clue(4, 5, false), -1);
    due("one of its forms", x.clue(4, 6, false), 3);
    due("another form of it", x.clue(5, 6, false), 4);
    due("but one clue", x.clues(false), 2);
    x.alike(4, 5, false);
    due("of the signs at any time", x.clues(false), 3);
    x.alike(0, 1, true);
    due("of one sign now", x.clues(false), 2);
    due("still told by hand", x.count(14), 4);
    for (int n = 5; n <= 12; n++) due("clue " + n, x.clue(n + 1, n + 2, true), n);
    due("a 13th", x.clue(0, 19, true), -1);
    due("clues", x.count(14), 12);
    due("undone", x.undo(), 15);
    due("room again", x.clue(0, 19, true), 12);
  }

  private static void clues() {
    UnreadSigns x = spaced(9, "ab/ac/db/dc", "abc/abd", "a/b/bbc/bcc");
    x.way(0); x.rise(9);
    // LINE: b-c (twice), c-d; FILE: a-d (twice), a-b by abc and bbc. WORDS of one SIGN tell nothing, nor the middle.
    due("lines", x.clues(false), 2);
    due("files", x.clues(true), 2);
    x.clue(1, 2, false);
    due("the same by hand", x.clues(false), 2);
    x.clue(1, 2, true);
    due("by hand", x.clues(true), 3);
    due("lines", x.clues(false), 2);
    due("none", new UnreadSigns().clues(false), 0);
  }

  private static void place() {
    UnreadSigns x = spaced(9, "ab/ac/eab/ead", "gf/hf");
    x.way(0); x.rise(9);
    int[] lines = {0, 1, 1, 1, 4, 5, 6, 7, 8};
    int[] files = {0, 1, 2, 3, 4, 5, 6, 6, 8};
    for (int f = 0; f < 9; f++) {
      due("line of " + f, x.place(f, false), lines[f]);
      due("file of " + f, x.place(f, true), files[f]);
    }
    due("form 9", x.place(9, false), -1);
    due("form -1", x.place(-1, true), -1);
    due("lines", x.count(10), 7);
    due("files", x.count(11), 8);
    x.alike(8, 3, true);
    due("any form of it", x.place(8, false), 1);
    x.clue(0, 8, false);
    due("by hand", x.place(2, false), 0);
  }

  private static void clash() {
    UnreadSigns x = spaced(9);
    for (int w = 0; w < 3; w++) due("none", x.clash(w), -2);
    x.clue(3, 4, false); x.clue(4, 5, false); x.clue(5, 6, false); x.clue(6, 7, false);
    due("lines alone", x.clash(0), -2);
    x.clue(7, 2, true); x.clue(2, 1, true); x.clue(1, 3, true);
    int[] due = {3, 7, 4 + 3};
    for (int w = 0; w < 3; w++) due("clash " + w, x.clash(w), due[w]);
    x.clue(4, 6, false); x.clue(7, 1, true);
    due("a shorter one", x.clash(2), 3 + 2);
    x.clue(5, 4, true);
    due("the least stays", x.clash(0), 3);
    x.clue(0, 8, true); x.clue(8, 0, false);
    due("a lesser first", x.clash(0) * 100 + x.clash(1) * 10 + x.clash(2), 82);
    due("what 3", x.clash(3), -1);
    due("what -1", x.clash(-1), -1);
    UnreadSigns z = spaced(9);
    z.clue(1, 4, false); z.clue(4, 5, false); z.clue(5, 0, false); z.clue(0, 3, false); z.clue(3, 1, true);
    due("a long line past the first sign", z.clash(0) * 100 + z.clash(1) * 10 + z.clash(2), 135);
    UnreadSigns y = spaced(9, "ab/ac", "bd/cd");
    y.way(0); y.rise(9);
    due("by words", y.clash(0) * 100 + y.clash(1) * 10 + y.clash(2), 122);
  }

  private static void clashes() {
    UnreadSigns x = spaced(9);
    due("none", x.clashes(), 0);
    x.clue(0, 1, false); x.clue(1, 2, false); x.clue(0, 2, true);
    due("one", x.clashes(), 1);
    x.clue(2, 1, true);
    due("three", x.clashes(), 3);
    x.clue(4, 5, true); x.clue(4, 5, false);
    due("four", x.clashes(), 4);
    x.alike(4, 5, true);
    due("one sign is no clash", x.clashes(), 3);
  }

  private static void guess() {
    UnreadSigns x = spaced(9);
    int[][] bad = {{9, 0, 0}, {-1, 0, 0}, {0, 10, 0}, {0, 0, 5}, {0, -1, 0}, {0, 0, -1}, {0, -2, -2}, {0, -1, -1}};
    for (int[] b : bad) due("guess", x.guess(b[0], b[1], b[2]), -1);
    due("no act", x.count(15), 0);
    due("guess", x.guess(0, 9, 4), 0);
    due("so", x.guess(0, 9, 4), -1);
    due("another vowel", x.guess(0, 9, 3), 0);
    for (int[] b : bad) if (b[1] != -1 || b[2] != -1) due("guess", x.guess(b[0], b[1], b[2]), -1);
    due("nothing happens", x.count(13) * 10 + x.known(0, 1), 13);
    due("another sign has it", x.guess(1, 9, 3), 2);
    due("a third one", x.guess(2, 9, 3), 3);
    due("guesses", x.count(13), 3);
    due("no more", x.guess(1, -1, -1), 2);
    due("no more so", x.guess(1, -1, -1), -1);
    due("guesses", x.count(13), 2);
    x.clue(4, 5, false); x.clue(5, 6, false);
    due("a line", x.guess(4, 1, 1), 2);
    due("two unlike consonants of a line", x.guess(6, 2, 2), 5);
    due("acts", x.count(15), 9);
    due("disputed", x.count(12), 5);
    UnreadSigns y = spaced(4);
    y.clue(0, 1, true); y.clue(1, 2, true);
    y.guess(0, 1, 1);
    due("two unlike vowels of a file", y.guess(2, 2, 2), 3);
    UnreadSigns z = spaced(4);
    z.alike(0, 1, true);
    z.guess(0, 1, 1);
    due("two forms of a sign, alike", z.guess(1, 1, 1), 0);
    due("two forms of a sign", z.guess(1, 1, 2), 1);
  }

  private static void known() {
    UnreadSigns x = spaced(9);
    x.clue(3, 4, false); x.clue(4, 5, true);
    due("guess", x.guess(4, 7, 2), 0);
    int[][] due = {{7, -1, 0}, {7, 2, 0}, {-1, 2, 0}, {-1, -1, 0}};
    for (int f = 0; f < 4; f++) for (int w = 0; w < 3; w++) due("known " + (f + 3) + " " + w, x.known(f + 3, w), due[f][w]);
    x.guess(3, 8, 1);
    due("that of the least form", x.known(4, 0), 8);
    due("its own vowel", x.known(4, 1), 2);
    due("disputed", x.known(3, 2) * 10 + x.known(4, 2), 11);
    due("not disputed", x.known(5, 2), 0);
    x.alike(8, 5, true);
    due("any form of it", x.known(8, 1), 2);
    due("what 3", x.known(4, 3), -1);
    due("what -1", x.known(4, -1), -1);
    due("form 9", x.known(9, 0), -1);
    due("form -1", x.known(-1, 2), -1);
    UnreadSigns y = spaced(9);
    y.alike(0, 3, true); y.clue(0, 1, false);
    y.guess(3, 5, 0); y.guess(1, 6, 0);
    due("the least form, not the least sign", y.known(0, 0), 6);
    UnreadSigns z = spaced(9);
    z.clue(0, 1, false); z.clue(1, 2, true);
    z.guess(0, 1, 1); z.guess(2, 2, 2); z.guess(5, 1, 2);
    due("spread by both", z.known(1, 0) * 10 + z.known(1, 1), 12);
    due("another sign has the same", z.known(1, 2) * 10 + z.known(5, 2), 11);
    due("not the others", z.known(0, 2) + z.known(2, 2), 0);
  }

  private static UnreadSigns small() {
    // Words: ab, abc, aba, bca, cc, each a ROW of its own.
    UnreadSigns x = spaced(9, "ab/abc/aba/bca", "cc");
    x.way(0); x.rise(9);
    return x;
  }

  private static void fits() {
    UnreadSigns x = small();
    due("no name", x.fits(0, -1), -1);
    name(x, "kato"); name(x, "kakato"); name(x, "katoka"); name(x, "kimaso");
    due("kato", x.fits(0, -1), 1);
    due("kato", x.fits(0, 0), 0);
    due("behind the last", x.fits(0, 1), -1);
    due("ahead of the first", x.fits(0, -2), -1);
    due("kakato", x.fits(1, -1), 0);
    due("katoka", x.fits(2, -1) * 10 + x.fits(2, 0), 11);
    due("kimaso", x.fits(3, -1) * 100 + x.fits(3, 0) * 10 + x.fits(3, 1), 223);
    due("no such name", x.fits(4, -1), -1);
    due("no such name", x.fits(-1, -1), -1);
    x.guess(0, 2, 2);
    due("ki, but not kato", x.fits(0, -1), 0);
    due("c is of a's LINE by aba and abc, so it has k, not s", x.fits(3, -1), 0);
    x.guess(0, -1, -1);
    x.clue(1, 8, true); x.guess(8, 0, 3);
    due("a vowel alone", x.fits(0, -1) * 10 + x.fits(3, -1), 10);
  }

  private static void hits() {
    UnreadSigns x = small();
    due("none", x.hits(), 0);
    name(x, "kato"); name(x, "katoki"); name(x, "kiki");
    due("nothing known", x.hits(), 0);
    x.guess(0, 2, 0);
    due("one known", x.hits(), 0);
    x.guess(1, 1, 3);
    due("kato", x.hits(), 1);
    x.guess(2, 2, 2);
    due("katoki, kiki", x.hits(), 3);
    x.guess(1, 1, 2);
    due("kiki", x.hits(), 1);
    x.guess(1, 2, 2);
    due("one syllable for one sign", x.hits(), 1);
    name(x, "kakiki");
    due("abc is no kakiki, as b and c are unlike", x.hits(), 1);
  }

  private static void ways() {
    UnreadSigns x = small();
    due("no names", x.ways(-1), 1);
    due("no such name", x.ways(0), -1);
    due("below", x.ways(-2), -1);
    name(x, "kato");
    due("one", x.ways(-1) * 10 + x.ways(0), 10);
    name(x, "kitoka");
    // abc and bca have the shape: abc asks a for ki, but kato a for ka; bca asks b for ki.
    due("none", x.ways(-1), 0);
    due("none", x.ways(0), -2);
    due("none", x.ways(1), -2);
    due("no such name", x.ways(2), -1);
    UnreadSigns y = spaced(9, "ab/cd/ef/gh", "ac/dh/ie");
    y.way(0); y.rise(9);
    // LINE: b-c by ab and ac; FILE: d-g by dh and gh.
    same("lexicon", lexicon(y), "ab1 ac1 cd1 dh1 ef1 gh1 ie1");
    name(y, "pate");
    due("any", y.ways(-1), 7);
    due("the first", y.ways(0), 0);
    name(y, "peta");
    due("two", y.ways(-1), twoNames());
    y.guess(0, 9, 4);
    due("a is ju", y.ways(0), 2);
    due("fits", y.fits(0, -1), 5);
    sharedPlaces();
    capped();
    manyWords();
  }

  private static void manyWords() {
    UnreadSigns x = longLexicon();
    due("words", x.words(), 48);
    name(x, "patina");
    due("words of three", x.fits(0, -1), 24);
    due("ways", x.ways(-1) * 100 + x.ways(0), 2424);
    // i to l are of one FILE.
    for (int f = 0; f < 4; f++) x.guess('l' - 'a' - f, f, 0);
    due("l is pa, others are not", x.fits(0, -1), 6);
    due("those with l ahead", x.ways(-1) * 100 + x.ways(0), 642);
    name(x, "patone");
    // lms lnt los lpt lqs lrt: na and ne are s and t, one of each.
    due("twos of words with l ahead", x.ways(-1), 18);
    due("the first", x.ways(0) * 100 + x.ways(1), 4243);
    x.guess('q' - 'a', 1, 3);
    due("q is to, not ti", x.ways(-1), 2 * 3 + 3 * 3);
    x.guess('m' - 'a', 1, 3);
    due("m is to, too", x.ways(-1) * 10000 + x.ways(0) * 100 + x.ways(1), (3 + 3 * 3) * 10000 + 4342);
  }

  /** Twos of WORDS for pate and peta: no SIGN shared, b and c with one consonant, d and g with one vowel. */
  private static int twoNames() {
    String[] lex = {"ab", "ac", "cd", "dh", "ef", "gh", "ie"};
    int n = 0;
    for (String v : lex)
      for (String w : lex) {
        boolean shared = v.indexOf(w.charAt(0)) >= 0 || v.indexOf(w.charAt(1)) >= 0;
        boolean line = clashes(v, w, 'b', 'c', true), file = clashes(v, w, 'd', 'g', false);
        if (!shared && !line && !file) n++;
      }
    return n;
  }

  private static boolean clashes(String v, String w, char s, char t, boolean consonants) {
    String[] syllables = {"pa", "te", "pe", "ta"};
    int one = (v + w).indexOf(s), other = (v + w).indexOf(t);
    if (one < 0 || other < 0) return false;
    int at = consonants ? 0 : 1;
    return syllables[one].charAt(at) != syllables[other].charAt(at);
  }

  private static void sharedPlaces() {
    UnreadSigns x = spaced(9, "ab/cd");
    x.way(0); x.rise(9);
    name(x, "pate");
    due("two words", x.ways(-1), 2);
    x.clue(0, 1, false);
    due("one line within a word", x.ways(-1) * 10 + x.ways(0), 11);
    due("it fits all the same", x.fits(0, -1), 2);
    x.clue(2, 3, true);
    due("one file within a word", x.ways(-1), 0);
    x.undo(); x.undo();
    name(x, "piso");
    due("both", x.ways(-1), 2);
    x.clue(0, 2, false);
    due("p and p", x.ways(-1), 2);
    x.clue(1, 3, false);
    due("t and s", x.ways(-1), 0);
    x.undo();
    x.clue(1, 3, true);
    due("e and o", x.ways(-1), 0);
    x.undo();
    x.guess(2, 0, 0);
    due("c is pa", x.ways(-1) * 100 + x.ways(0) * 10 + x.ways(1), 110);
    x.guess(2, 0, 4);
    due("c is pu", x.ways(-1), 0);
    UnreadSigns y = spaced(9, "ab");
    y.way(0); y.rise(9);
    name(y, "pate"); name(y, "pati");
    due("no two the same", y.ways(-1), 0);
  }

  private static void capped() {
    // Ten WORDS that share no SIGN.
    UnreadSigns x = close(20, "ab/cd/ef/gh", "ij/kl/mn/op", "qr/st");
    x.way(0); x.rise(9);
    name(x, "pate"); name(x, "kimo");
    due("twos", x.ways(-1), 90);
    name(x, "nuse");
    due("threes", x.ways(-1), 720);
    name(x, "wajo");
    due("999 at most", x.ways(-1), 999);
    for (int n = 0; n < 4; n++) due("the first", x.ways(n), n);
    x.guess(0, 4, 4);
    due("a is nu", x.ways(0) * 1000 + x.ways(1) * 100 + x.ways(2) * 10 + x.ways(3), 1203);
  }

  private static void draws() {
    UnreadSigns x = new UnreadSigns();
    due("at first", x.draws(5), 0);
    due("was 5", x.draws(Integer.MAX_VALUE), 5);
    due("below 0", x.draws(-1), -1);
    due("below 0", x.draws(Integer.MIN_VALUE), -1);
    due("stays", x.count(16), Integer.MAX_VALUE);
    due("the same again", x.draws(Integer.MAX_VALUE), Integer.MAX_VALUE);
    due("no act", x.count(15), 0);
    due("to 0", x.draws(0), Integer.MAX_VALUE);
  }

  private static void test() {
    UnreadSigns x = new UnreadSigns();
    due("1", x.test(1), 1);
    due("50", x.test(50), 50);
    due("0", x.test(0), -1);
    due("51", x.test(51), -1);
    due("-1", x.test(-1), -1);
    x = small();
    name(x, "kato");
    x.guess(0, 2, 0); x.guess(1, 1, 3); x.guess(7, 4, 4);
    due("hits", x.hits(), 1);
    for (int seed : new int[] {0, 1, 12345, 99999999, Integer.MAX_VALUE}) {
      x.draws(seed);
      for (int m = 1; m <= 50; m++) due("test " + m, x.test(m), stays(seed, m));
      due("x is as it was", x.count(16), seed);
    }
    x.guess(0, 3, 0);
    due("as many as none", x.hits() * 100 + x.test(50), 50);
    x.guess(0, 2, 0);
    due("known as it was", x.hits(), 1);
  }

  /** Of three values changed about, how often the first two stay where they are. */
  private static int stays(int seed, int m) {
    long y = seed;
    int n = 0;
    for (int i = 0; i < m; i++) {
      int[] v = {0, 1, 2};
      for (int last = 2; last >= 1; last--) {
        y = (y * 1103515245L + 12345L) % 2147483648L;
        int with = (int) (y / 65536 % (last + 1));
        int kept = v[last];
        v[last] = v[with];
        v[with] = kept;
      }
      if (v[0] == 0 && v[1] == 1) n++;
    }
    return n;
  }

  private static void undo() {
    UnreadSigns x = spaced(9, "abc/abd");
    due("none", x.undo(), -1);
    x.loose(4); x.way(1); x.rise(5); x.loose(2);
    x.alike(0, 1, true); x.apart(0, 1, true); x.alike(5, 6, true); x.alike(5, 6, false);
    x.clue(7, 8, true); x.clue(7, 8, false);
    x.guess(4, 1, 1); x.guess(4, 1, 2); x.guess(4, -1, -1);
    due("acts", x.count(15), 13);
    due("guess", x.undo(), 12);
    due("known", x.known(4, 1), 2);
    due("guess", x.undo(), 11);
    due("known", x.known(4, 1), 1);
    due("guess", x.undo(), 10);
    due("known", x.known(4, 1), -1);
    due("guesses", x.count(13), 0);
    due("clue", x.undo(), 9);
    due("clues", x.count(14), 1);
    due("the file stays", x.place(8, true), 7);
    due("clue", x.undo(), 8);
    due("the file is none", x.place(8, true), 8);
    due("ALIKE no more", x.undo(), 7);
    due("sign", x.sign(6), 5);
    due("ALIKE", x.undo(), 6);
    due("sign", x.sign(6), 6);
    due("APART", x.undo(), 5);
    due("sign", x.sign(1), 0);
    due("ALIKE", x.undo(), 4);
    due("sign", x.sign(1), 1);
    due("LOOSE", x.undo() * 10 + x.count(6), 34);
    due("RISE", x.undo() * 10 + x.count(8), 22);
    due("WAY", x.undo() * 10 + x.count(7), 13);
    due("LOOSE", x.undo() * 10 + x.count(6), 2);
    due("none", x.undo(), -1);
    for (int n = 0; n < 25; n++) x.loose(n == 2 ? 25 : n);
    due("20 at most", x.count(15), 20);
    for (int n = 19; n >= 0; n--) due("undo", x.undo(), n);
    due("none", x.undo(), -1);
    due("the sixth stays", x.count(6), 4);
    x.loose(9);
    due("a stone with a fault", stone(x, "a."  + "b"), fault(2, 1));
    due("a name", name(x, "pate"), 0);
    x.draws(4);
    due("can still be undone", x.undo(), 0);
    x.loose(9);
    stone(x, "a");
    due("a stone ends it", x.undo(), -1);
    due("loose stays", x.count(6), 9);
  }

  private static void count() {
    UnreadSigns x = close(20, "ab/ac", "..db./.a..", "a");
    x.way(0);
    x.alike(18, 19, true);
    name(x, "pate"); name(x, "peta");
    x.clue(5, 6, false); x.clue(6, 7, false); x.clue(8, 9, true);
    x.guess(10, 1, 1); x.guess(11, 1, 1); x.guess(12, 2, 2);
    x.draws(77);
    x.feed(0, 0, 0, 0, 0);
    x.end(3);
    // LINE: b-c by ab and ac, 5-6-7 by hand; FILE: a-d by ab and db, 8-9 by hand.
    int[] due = {20, 19, 3, 5, 8, 5, 0, 0, 2, 2, 16, 17, 2, 3, 3, 9, 77, 3};
    x.rise(9);
    due[8] = 9;
    due[15] = 10;
    for (int i = 0; i < due.length; i++) due("count " + i, x.count(i), due[i]);
    for (int w : new int[] {-1, 18, 19, Integer.MAX_VALUE, Integer.MIN_VALUE}) due("count " + w, x.count(w), -1);
  }

  private static void run(int number) {
    now = "promise " + number;
    switch (number) {
      case 1: aNewObject(); break;
      case 2: feed(); break;
      case 3: end(); break;
      case 4: formsTold(); break;
      case 5: stoneTold(); break;
      case 6: nameTold(); break;
      case 7: unlike(); break;
      case 8: sign(); break;
      case 9: size(); break;
      case 10: tree(); break;
      case 11: loose(); break;
      case 12: alike(); break;
      case 13: apart(); break;
      case 14: way(); break;
      case 15: judged(); break;
      case 16: read(); break;
      case 17: comes(); break;
      case 18: next(); break;
      case 19: rise(); break;
      case 20: words(); break;
      case 21: word(); break;
      case 22: rank(); break;
      case 23: stands(); break;
      case 24: ahead(); break;
      case 25: stem(); break;
      case 26: clue(); break;
      case 27: clues(); break;
      case 28: place(); break;
      case 29: clash(); break;
      case 30: clashes(); break;
      case 31: guess(); break;
      case 32: known(); break;
      case 33: fits(); break;
      case 34: hits(); break;
      case 35: ways(); break;
      case 36: draws(); break;
      case 37: test(); break;
      case 38: undo(); break;
      default: count();
    }
  }

  public static void main(String[] args) {
    for (int number = 1; number <= 39; number++) {
      int before = right + wrong;
      run(number);
      if (right + wrong == before) { wrong++; System.out.println("promise " + number + " has no test"); }
    }
    System.out.println(right + " answers are as due, " + wrong + " are not");
    if (wrong != 0) System.exit(1);
  }
}
