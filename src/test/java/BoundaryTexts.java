/** Boundary cases of promises 1 to 6: a new object, the TAPE, and the texts of FORMS, STONES and NAMES. */
final class BoundaryTexts extends Bench {
  private static UnreadSigns fresh() { return new UnreadSigns(); }
  private static String times(char c, int n) { return String.valueOf(c).repeat(n); }

  // ---- promise 1

  @Says("No FORMS, no STONES, no NAMES.")
  static void promise01_nothingIsThere() {
    UnreadSigns x = fresh();
    same("counts", counts(x, 0, 1, 2, 3, 4, 5, 9, 10, 11, 12, 13, 14, 15, 17), "0 0 0 0 0 0 0 0 0 0 0 0 0 0");
    due("no FORM", x.sign(0), -1);
    due("no STONE", x.read(0, 0, -1), -1);
    due("no NAME", x.fits(0, -1), -1);
  }

  @Says("An object is used for at most 512 calls after it has been made")
  static void promise01_all512CallsAreAnswered() {
    UnreadSigns x = fresh();
    for (int n = 1; n <= 511; n++) due("call " + n, x.loose(n % 2 == 1 ? 25 : 2), n % 2 == 1 ? 2 : 25);
    due("call 512", x.undo(), 19);
  }

  @Says("The constants: NONE = -1: None.")
  static void promise01_none() { due("NONE", UnreadSigns.NONE, -1); }

  // ---- promise 2

  @Says("Twenty bytes come behind the TAPE")
  static void promise02_behindWhatIsThere() {
    UnreadSigns x = fresh();
    due("the first twenty", x.feed(0x6b616161, 0x61616161, 0x61616161, 0x61616161, 0x61616161), 20);
    due("the next twenty", x.feed(0, 0, 0, 0, 0), 40);
    x.end(2);
    due("behind two bytes", x.feed(0x746f0000, 0, 0, 0, 0), 22);
    x.end(4);
    due("ka, then to", x.name(), 0);
    due("kato is told already", name(x, "kato"), fault(0, 3));
  }

  @Says("of each number the highest first")
  static void promise02_theHighestFirst() {
    UnreadSigns x = fresh();
    x.feed(0x70617461, 0x6b616d61, 0x6e617261, 0x6c612020, 0x20202020);
    x.end(14);
    due("patakamanarala", x.name(), 0);
    due("told already", name(x, "patakamanarala"), fault(0, 3));
    x.feed(0x20202020, 0x20202020, 0x20202020, 0x20202020, 0x20202078);
    due("the lowest byte of the last number is the last", x.forms(), fault(19, 1));
    x.feed(0xb1202020, 0, 0, 0, 0);
    x.end(4);
    due("a byte above 127 is no digit", x.forms(), fault(0, 1));
    x.feed(0x2020a020, 0, 0, 0, 0);
    x.end(4);
    due("a byte above 127 is no blank", x.forms(), fault(2, 1));
  }

  @Says({"how many it has", "NONE, and none comes, if it would have more than 300."})
  static void promise02_threeHundredAndNoMore() {
    UnreadSigns x = fresh();
    for (int n = 1; n <= 15; n++) due("feed " + n, x.feed(0x20202020, 0x20202020, 0x20202020, 0x20202020, 0x20202020), 20 * n);
    due("beyond 300", x.feed(0x78787878, 0x78787878, 0x78787878, 0x78787878, 0x78787878), -1);
    due("bytes", x.count(17), 300);
    x.end(281);
    due("301 would be", x.feed(0x78787878, 0, 0, 0, 0), -1);
    due("bytes", x.count(17), 281);
    due("none came", x.forms(), 0);
    tell(x, times(' ', 280));
    due("300 would be", x.feed(0x20202020, 0x20202020, 0x20202020, 0x20202020, 0x20202020), 300);
    due("blanks alone", x.forms(), 0);
    tell(x, times(' ', 299));
    due("299 and 20", x.feed(0, 0, 0, 0, 0), -1);
    due("bytes", x.count(17), 299);
  }

  // ---- promise 3

  @Says("The TAPE has its first n bytes alone: n")
  static void promise03_theFirstBytesAlone() {
    UnreadSigns x = fresh();
    due("none of none", x.end(0), 0);
    x.feed(0x6b61746f, 0x6d6f0000, 0, 0, 0);
    due("all of them", x.end(20), 20);
    due("the first six", x.end(6), 6);
    due("the first four", x.end(4), 4);
    due("bytes", x.count(17), 4);
    due("kato", x.name(), 0);
    due("told already", name(x, "kato"), fault(0, 3));
    x.feed(1, 2, 3, 4, 5);
    due("none", x.end(0), 0);
    due("bytes", x.count(17), 0);
  }

  @Says("NONE, and nothing happens, if it has not so many")
  static void promise03_notSoMany() {
    UnreadSigns x = fresh();
    due("one of none", x.end(1), -1);
    tell(x, "kato");
    due("five of four", x.end(5), -1);
    due("as many as were fed", x.end(20), -1);
    due("300", x.end(300), -1);
    due("301", x.end(301), -1);
    due("the most", x.end(Integer.MAX_VALUE), -1);
    due("bytes", x.count(17), 4);
    due("kato", x.name(), 0);
    tell(x, times(' ', 300));
    due("301 of 300", x.end(301), -1);
    due("300 of 300", x.end(300), 300);
  }

  @Says("or n is below 0")
  static void promise03_below0() {
    UnreadSigns x = fresh();
    tell(x, "kato");
    for (int n : new int[] {-1, -2, -20, Integer.MIN_VALUE}) due("end " + n, x.end(n), -1);
    due("bytes", x.count(17), 4);
    due("kato", x.name(), 0);
  }

  // ---- promise 4: the text of FORMS

  @Says("FORMS are told by a text of at most 300 bytes")
  static void promise04_aTextOf300Bytes() {
    due("blanks behind", forms(fresh(), twenty() + times(' ', 89)), 20);
    due("; is the last byte", forms(fresh(), "1 2 3 4 " + times('0', 290) + "5;"), 1);
    due("; is missing", forms(fresh(), "1 2 3 4 " + times('0', 291) + "5"), fault(300, 1));
    due("all blanks", forms(fresh(), times(' ', 300)), 0);
    due("the last byte is wrong", forms(fresh(), times(' ', 299) + "x"), fault(299, 1));
  }

  @Says("{ FORM ; }")
  static void promise04_anyNumberOfForms() {
    due("no FORM", forms(fresh(), ""), 0);
    due("one", forms(fresh(), "1 2 3 4 5;"), 1);
    due("two", forms(fresh(), "1 2 3 4 5;5 4 3 2 1;"), 2);
    due("; alone", forms(fresh(), ";"), fault(0, 1));
    due("a ; too many", forms(fresh(), "1 2 3 4 5;;"), fault(10, 1));
    due("no ; between", forms(fresh(), "1 2 3 4 5 5 4 3 2 1;"), fault(10, 1));
    due("no ; behind the last", forms(fresh(), "1 2 3 4 5;5 4 3 2 1"), fault(19, 1));
  }

  @Says("FORM: five NUMBERS")
  static void promise04_fiveNumbers() {
    due("none", forms(fresh(), " ;"), fault(1, 1));
    due("four", forms(fresh(), "1 2 3 4;"), fault(7, 1));
    due("five", forms(fresh(), "1 2 3 4 5;"), 1);
    due("six", forms(fresh(), "1 2 3 4 5 6;"), fault(10, 1));
  }

  @Says("(digits, as far as they go on; 0 to 31)")
  static void promise04_numbers0To31() {
    due("0 and 31", forms(fresh(), "0 31 0 31 0;"), 1);
    due("noughts ahead", forms(fresh(), "000 0031 00 031 0;"), 1);
    due("32", forms(fresh(), "0 32 0 31 0;"), fault(2, 2));
    due("digits go on", forms(fresh(), "310 0 0 0 0;"), fault(0, 2));
    due("2 to the 32nd", forms(fresh(), "4294967296 0 0 0 0;"), fault(0, 2));
    due("2 to the 32nd and 5", forms(fresh(), "4294967301 0 0 0 0;"), fault(0, 2));
    due("2 to the 64th", forms(fresh(), "18446744073709551616 0 0 0 0;"), fault(0, 2));
    due("two hundred nines", forms(fresh(), times('9', 200) + " 0 0 0 0;"), fault(0, 2));
    due("a number below 0", forms(fresh(), "-1 0 0 0 0;"), fault(0, 1));
  }

  @Says("rows from above, 16 is the leftmost place, 1 the rightmost.")
  static void promise04_places() {
    UnreadSigns x = office("16 0 0 0 0;8 0 0 0 0;4 0 0 0 0;2 0 0 0 0;1 0 0 0 0;0 16 0 0 0;0 0 16 0 0;0 0 0 16 0;0 0 0 0 16;");
    for (int one = 0; one < 5; one++)
      for (int other = 0; other < 5; other++) {
        int apart = Math.abs(one - other);
        due("along a row " + one + " " + other, x.unlike(one, other), apart == 2 || apart == 3 ? 2 : 0);
        due("downwards " + one + " " + other, x.unlike(one == 0 ? 0 : 4 + one, other == 0 ? 0 : 4 + other), apart == 2 || apart == 3 ? 2 : 0);
      }
  }

  @Says("Blanks (32) may stand ahead of a NUMBER, of ; and at the end.")
  static void promise04_blanks() {
    due("ahead of the first NUMBER", forms(fresh(), "   1 2 3 4 5;"), 1);
    due("ahead of NUMBERS", forms(fresh(), "1   2 3    4 5;"), 1);
    due("ahead of ;", forms(fresh(), "1 2 3 4 5   ;"), 1);
    due("at the end", forms(fresh(), "1 2 3 4 5;   "), 1);
    due("ahead of another FORM", forms(fresh(), "1 2 3 4 5;   5 4 3 2 1;"), 2);
    due("within a NUMBER they are two", forms(fresh(), "1 2 3 1 2 4;"), fault(10, 1));
    for (char c : new char[] {0, 9, 10, 13, 31, 33, 160}) {
      due("byte " + (int) c, forms(fresh(), c + "1 2 3 4 5;"), fault(0, 1));
      due("byte " + (int) c, forms(fresh(), "1" + c + "2 3 4 5;"), fault(1, 1));
      due("byte " + (int) c, forms(fresh(), "1 2 3 4 5" + c + ";"), fault(9, 1));
      due("byte " + (int) c, forms(fresh(), "1 2 3 4 5;" + c), fault(10, 1));
    }
  }

  @Says("FORMS are a, b, c .. in the order told, 20 at most.")
  static void promise04_twentyFormsByLetters() {
    UnreadSigns x = fresh();
    due("twenty", forms(x, twenty()), 20);
    due("t is the last one", comes(x, "t"), 0);
    due("u is none", comes(x, "u"), -1);
    due("the 20th", x.unlike(19, 19), 0);
    due("no 21st", x.unlike(20, 20), -1);
    UnreadSigns y = office("0 0 0 0 0;31 31 31 31 31;31 0 0 0 0;");
    due("a and b", y.unlike(0, 1), 25);
    due("a and c", y.unlike(0, 2), 5);
    due("b and c", y.unlike(1, 2), 20);
  }

  // ---- promise 4: FAULTS of FORMS

  @Says("FAULT of a text that is none: of the first place along it that is wrong (0 the first byte)")
  static void promise04_theFirstPlace() {
    due("place 0", forms(fresh(), "x"), fault(0, 1));
    due("2 ahead of 1", forms(fresh(), "1 32 3 4 x"), fault(2, 2));
    due("1 ahead of 2", forms(fresh(), "1 x 99"), fault(2, 1));
    due("the first of two NUMBERS", forms(fresh(), "1 2 33 44 5;"), fault(4, 2));
    due("4 ahead of 1", forms(fresh(), "1 2 3 4 5;1 2 3 4 5;x"), fault(10, 4));
    due("2 ahead of 4", forms(fresh(), "32 2 3 4 5;1 2 3 4 5;1 2 3 4 5;"), fault(0, 2));
    due("the first of two FORMS told already", forms(fresh(), "1 2 3 4 5;1 2 3 4 5;1 2 3 4 5;"), fault(10, 4));
    due("4 ahead of 3", forms(fresh(), "1 0 0 0 0;" + twenty()), fault(10, 4));
    due("3 ahead of 1", forms(fresh(), twenty() + "21 x"), fault(211, 3));
    due("3 ahead of 2", forms(fresh(), twenty() + "21 32"), fault(211, 3));
  }

  @Says("8 times the place and:")
  static void promise04_eightTimesThePlace() {
    due("place 1", forms(fresh(), " x"), -2 - 9);
    due("place 30", forms(fresh(), "1 0 0 0 0;2 0 0 0 0;3 0 0 0 0;x"), -2 - 241);
    due("place 28", forms(fresh(), "1 0 0 0 0;2 0 0 0 0;3 0 0 0 77;"), -2 - 226);
  }

  @Says("1 a byte that cannot stand there")
  static void promise04_eachByte() {
    for (int b = 0; b < 256; b++) {
      boolean digit = b >= '0' && b <= '9';
      due("first byte " + b, forms(fresh(), "" + (char) b), digit ? fault(1, 1) : b == 32 ? 0 : fault(0, 1));
      due("byte " + b + " behind a NUMBER", forms(fresh(), "1 2 3" + (char) b + "4 5;"),
          digit ? fault(4, 2) : b == 32 ? 1 : fault(5, 1));
      due("byte " + b + " behind five NUMBERS", forms(fresh(), "1 2 3 4 5" + (char) b),
          digit ? fault(8, 2) : b == 32 ? fault(10, 1) : b == ';' ? 1 : fault(9, 1));
      due("byte " + b + " behind a FORM", forms(fresh(), "1 2 3 4 5;" + (char) b),
          digit ? fault(11, 1) : b == 32 ? 1 : fault(10, 1));
    }
  }

  @Says("or the text ends (the place behind its last byte)")
  static void promise04_theTextEnds() {
    String text = "11 2 3 4 5 ;";
    for (int n = 1; n < text.length(); n++) due("the first " + n + " bytes", forms(fresh(), text.substring(0, n)), fault(n, 1));
    due("all of it", forms(fresh(), text), 1);
    due("within the second FORM", forms(fresh(), text + "1"), fault(13, 1));
  }

  @Says("2 a NUMBER above 31 (where it begins)")
  static void promise04_aNumberAbove31() {
    String[] texts = {"32 1 1 1 1;", "1 32 1 1 1;", "1 1 32 1 1;", "1 1 1 32 1;", "1 1 1 1 32;"};
    for (int i = 0; i < 5; i++) due("number " + i, forms(fresh(), texts[i]), fault(2 * i, 2));
    due("behind blanks", forms(fresh(), "   32 1 1 1 1;"), fault(3, 2));
    due("behind noughts", forms(fresh(), "1 00032 1 1 1;"), fault(2, 2));
    due("the text ends in it", forms(fresh(), "1 99"), fault(2, 2));
    due("in another FORM", forms(fresh(), "1 2 3 4 5; 1 2 3 4 40;"), fault(19, 2));
  }

  @Says("3 a FORM (where it begins) that would be the 21st")
  static void promise04_a21stForm() {
    due("twenty are right", forms(fresh(), twenty()), 20);
    due("a 21st", forms(fresh(), twenty() + "21 0 0 0 0;"), fault(211, 3));
    due("behind blanks", forms(fresh(), twenty() + "  21 0 0 0 0;"), fault(213, 3));
    due("its first digit", forms(fresh(), twenty() + "2"), fault(211, 3));
    due("blanks are none", forms(fresh(), twenty() + "  "), 20);
    due("; is none", forms(fresh(), twenty() + ";"), fault(211, 1));
  }

  @Says("4 a FORM (where it begins) that is one told already")
  static void promise04_toldAlready() {
    due("the same", forms(fresh(), "1 2 3 4 5;1 2 3 4 5;"), fault(10, 4));
    due("written in another way, behind blanks", forms(fresh(), "1 2 3 4 5;  01 2  3 4 005 ;"), fault(12, 4));
    due("the first one again", forms(fresh(), "1 2 3 4 5;2 2 3 4 5;1 2 3 4 5;"), fault(20, 4));
    due("the 20th is the first", forms(fresh(), twenty().replace(";20 ", ";1 ")), fault(200, 4));
    due("shifted it is another one", forms(fresh(), "31 0 0 0 0;0 31 0 0 0;"), 2);
    for (int i = 0; i < 5; i++) {
      StringBuilder b = new StringBuilder("1 1 1 1 1;1 1 1 1 1;");
      b.setCharAt(10 + 2 * i, '2');
      due("another NUMBER " + i, forms(fresh(), b.toString()), 2);
    }
    UnreadSigns x = fresh();
    due("told", forms(x, "1 2 3 4 5;"), 1);
    due("told in another text", forms(x, "1 2 3 4 5;"), 1);
  }

  @Says("told when it is right up to its ; .")
  static void promise04_toldWhenRightUpToItsEnd() {
    due("the text ends", forms(fresh(), "1 2 3 4 5;1 2 3 4 5"), fault(19, 1));
    due("the text ends behind a blank", forms(fresh(), "1 2 3 4 5;1 2 3 4 5 "), fault(20, 1));
    due("another byte", forms(fresh(), "1 2 3 4 5;1 2 3 4 5x"), fault(19, 1));
    due("a sixth NUMBER", forms(fresh(), "1 2 3 4 5;1 2 3 4 5 6;"), fault(20, 1));
    due("a NUMBER above 31", forms(fresh(), "1 2 3 4 5;1 2 3 4 55;"), fault(18, 2));
    due("right up to its ;", forms(fresh(), "1 2 3 4 5;1 2 3 4 5 ;x"), fault(10, 4));
  }

  @Says("Of one place the least.")
  static void promise04_ofOnePlaceTheLeast() {
    due("a 21st above 31", forms(fresh(), twenty() + "32 0 0 0 0;"), fault(211, 2));
    due("a 21st told already", forms(fresh(), twenty() + "1 0 0 0 0;"), fault(211, 3));
  }

  // ---- promise 4: what forms() does

  @Says("The TAPE, which is empty then, tells FORMS in place of those there were")
  static void promise04_inPlaceOfThoseThereWere() {
    UnreadSigns x = fresh();
    due("three", forms(x, "0 0 0 0 0;31 31 31 31 31;31 31 0 0 0;"), 3);
    due("the TAPE", x.count(17), 0);
    due("two", forms(x, "0 0 0 0 0;31 0 0 0 0;"), 2);
    due("the TAPE", x.count(17), 0);
    due("FORMS", x.count(0), 2);
    due("other FORMS", x.unlike(0, 1), 5);
    due("no third", x.unlike(0, 2), -1);
    same("another TREE", tree(x), "5ab");
    due("an empty TAPE", x.forms(), 0);
    due("FORMS", x.count(0), 0);
    due("none", x.sign(0), -1);
    same("no TREE", tree(x), "");
  }

  @Says("(no STONES, LOOSE 2, WAY 3, RISE 2, nothing told by hand or guessed; NAMES and x stay)")
  static void promise04_whatIsAnewAndWhatStays() {
    UnreadSigns x = desk();
    due("forms", forms(x, filled(0, 3, 6, 9, 12, 15)), 6);
    same("no STONES", counts(x, 2, 3, 4, 5), "0 0 0 0");
    due("no ROW", x.read(0, 0, -1), -1);
    same("LOOSE, WAY, RISE", counts(x, 6, 7, 8), "2 3 2");
    same("no CLUES by hand, no GUESSES, no ACTS", counts(x, 14, 13, 15), "0 0 0");
    same("not ALIKE", signs(x), "abcdef");
    due("not ALIKE", x.alike(4, 5, false), false);
    due("not APART", x.apart(0, 1, false), false);
    same("no LINES", places(x, false), "abcdef");
    same("no FILES", places(x, true), "abcdef");
    same("nothing KNOWN", known(x), "-- -- -- -- -- --");
    due("NAMES stay", x.count(9), 2);
    due("the same NAMES", name(x, "katoki"), fault(0, 3));
    due("x stays", x.count(16), 5);
  }

  @Says("how many; -2 - its FAULT, and but for the TAPE nothing happens.")
  static void promise04_aFaultChangesNothing() {
    refused("a wrong byte", Bench::desk, x -> forms(x, "x"), fault(0, 1));
    refused("a fault behind some FORMS", Bench::desk, x -> forms(x, "1 2 3 4 5;5 4 3 2 1;32 "), fault(20, 2));
    refused("a 21st", Bench::desk, x -> forms(x, twenty() + "21 0 0 0 0;"), fault(211, 3));
    refused("told already", Bench::desk, x -> forms(x, "1 2 3 4 5;1 2 3 4 5;"), fault(10, 4));
    UnreadSigns x = desk();
    String before = tree(x);
    forms(x, "1 2 3 4 5;5 4 3 2 1;x");
    due("the TAPE is empty", x.count(17), 0);
    same("the TREE", tree(x), before);
  }

  // ---- promise 5: the text of a STONE

  @Says("ROW { / ROW }, 4 at most")
  static void promise05_oneToFourRows() {
    String[] texts = {"a", "a/b", "a/b/c", "a/b/c/a"};
    for (int i = 0; i < 4; i++) {
      UnreadSigns x = spaced(3);
      due(texts[i], stone(x, texts[i]), 0);
      due("ROWS", x.count(3), i + 1);
      due("its last ROW", x.read(0, i, -1), 1);
      due("none behind it", x.read(0, i + 1, -1), -1);
    }
    due("five", stone(spaced(3), "a/b/c/a/b"), fault(8, 3));
    due("none", stone(spaced(3), ""), fault(0, 1));
  }

  @Says("ROW: { . } LETTER { LETTER } { . }")
  static void promise05_aRow() {
    for (String text : new String[] {"a", "ab", ".a", "...ab", "a.", "ab...", ".a.", "..ab.."})
      due(text, stone(spaced(3), text), 0);
    due("no LETTER", stone(spaced(3), "."), fault(1, 1));
    due("no LETTER", stone(spaced(3), "..."), fault(3, 1));
    due("no LETTER in the next ROW", stone(spaced(3), "a/."), fault(3, 1));
    due("no LETTER ahead of /", stone(spaced(3), "./a"), fault(1, 1));
    due("LETTERS behind .", stone(spaced(3), "a.b"), fault(2, 1));
    due("LETTERS behind .", stone(spaced(3), ".a..b."), fault(4, 1));
    due("an empty ROW", stone(spaced(3), "/a"), fault(0, 1));
    due("an empty ROW", stone(spaced(3), "a//b"), fault(2, 1));
    due("an empty ROW", stone(spaced(3), "a/"), fault(2, 1));
  }

  @Says("LETTERS are FORMS")
  static void promise05_lettersAreForms() {
    due("the last FORM", stone(spaced(3), "c"), 0);
    due("behind the last FORM", stone(spaced(3), "d"), fault(0, 2));
    UnreadSigns x = close(20);
    due("the 20th", stone(x, "t"), 0);
    due("the 20th", x.read(0, 0, 0), 19);
    due("behind the 20th", stone(x, "u"), fault(0, 2));
    due("no FORMS", stone(fresh(), "a"), fault(0, 2));
    UnreadSigns y = spaced(3);
    forms(y, filled(0, 3));
    due("fewer FORMS than there were", stone(y, "c"), fault(0, 2));
  }

  @Says(". an empty place; at most 10 places.")
  static void promise05_tenPlaces() {
    for (String text : new String[] {"abcabcabca", ".........a", "a.........", "....ab....", "abcabcabc."})
      due(text, stone(spaced(3), text), 0);
    UnreadSigns x = spaced(3);
    x.way(0);
    due("each of four ROWS", stone(x, "abcabcabca/.abcabcabc/abcabcabc./abcabcabcb"), 0);
    due("SIGNS", x.count(4), 38);
    same("the last ROW", row(x, 0, 3), "abcabcabcb");
    due("eleven", stone(x, "abcabcabcab"), fault(10, 3));
  }

  @Says("(No blanks.)")
  static void promise05_noBlanks() {
    due("ahead", stone(spaced(3), " a"), fault(0, 1));
    due("between", stone(spaced(3), "a b"), fault(1, 1));
    due("at the end", stone(spaced(3), "a "), fault(1, 1));
    due("ahead of /", stone(spaced(3), "a /b"), fault(1, 1));
    due("behind /", stone(spaced(3), "a/ b"), fault(2, 1));
  }

  @Says("STONES 0 to 5.")
  static void promise05_sixStones() {
    UnreadSigns x = spaced(3);
    for (int s = 0; s < 6; s++) due("stone", stone(x, s % 2 == 0 ? "ab" : "c"), s);
    for (int s = 0; s < 6; s++) due("its ROW", x.read(s, 0, -1), s % 2 == 0 ? 2 : 1);
    due("STONES", x.count(2), 6);
    due("no seventh", x.read(6, 0, -1), -1);
  }

  // ---- promise 5: FAULTS of a STONE

  @Says("FAULT: 1 as above; 2 a LETTER that is no FORM")
  static void promise05_eachByte() {
    for (int b = 0; b < 256; b++) {
      boolean form = b >= 'a' && b <= 'c', letter = b > 'c' && b <= 'z';
      due("first byte " + b, stone(spaced(3), "" + (char) b), form ? 0 : letter ? fault(0, 2) : b == '.' ? fault(1, 1) : fault(0, 1));
      due("byte " + b + " behind a LETTER", stone(spaced(3), "a" + (char) b),
          form || b == '.' ? 0 : letter ? fault(1, 2) : b == '/' ? fault(2, 1) : fault(1, 1));
      due("byte " + b + " behind .", stone(spaced(3), "a." + (char) b), b == '.' ? 0 : b == '/' ? fault(3, 1) : fault(2, 1));
    }
    due("in another ROW", stone(spaced(3), "abc/abd/x"), fault(6, 2));
  }

  @Says("3 an 11th place of a ROW (a LETTER or .)")
  static void promise05_an11thPlace() {
    due("a LETTER", stone(spaced(3), "abcabcabcab"), fault(10, 3));
    due(".", stone(spaced(3), "abcabcabca."), fault(10, 3));
    due(". behind .", stone(spaced(3), "a.........."), fault(10, 3));
    due("no LETTER yet", stone(spaced(3), "..........."), fault(10, 3));
    due("the first LETTER", stone(spaced(3), "..........a"), fault(10, 3));
    due("a 12th, too", stone(spaced(3), "abcabcabcabc"), fault(10, 3));
    due("in the next ROW", stone(spaced(3), "abc/abcabcabcab"), fault(14, 3));
    due("/ is no place", stone(spaced(3), "abcabcabca/a"), 0);
  }

  @Says("a fifth ROW (where it begins).")
  static void promise05_aFifthRow() {
    due("with a LETTER", stone(spaced(3), "a/b/c/a/b"), fault(8, 3));
    due("with .", stone(spaced(3), "abc/abc/abc/abc/.a"), fault(16, 3));
    due("a fault behind its begin", stone(spaced(3), "a/b/c/a/bx"), fault(8, 3));
    due("a sixth, too", stone(spaced(3), "a/b/c/a/b/c"), fault(8, 3));
  }

  @Says("Of one place the least. A NAME")
  static void promise05_ofOnePlaceTheLeast() {
    due("an 11th place, no FORM", stone(spaced(3), "abcabcabcad"), fault(10, 2));
    due("an 11th place, a LETTER behind .", stone(spaced(3), "abcabcabc.a"), fault(10, 1));
    due("an 11th place, a LETTER behind ., no FORM", stone(spaced(3), "abcabcabc.d"), fault(10, 1));
    due("a LETTER behind ., no FORM", stone(spaced(3), "a.d"), fault(2, 1));
    due("an 11th place, a wrong byte", stone(spaced(3), "abcabcabca?"), fault(10, 1));
    due("a fifth ROW, no FORM", stone(spaced(3), "a/b/c/a/d"), fault(8, 2));
    due("a fifth ROW, a wrong byte", stone(spaced(3), "a/b/c/a/?"), fault(8, 1));
    due("a fifth ROW, the text ends", stone(spaced(3), "a/b/c/a/"), fault(8, 1));
    due("a fifth ROW, empty", stone(spaced(3), "a/b/c/a//a"), fault(8, 1));
  }

  // ---- promise 5: what stone() does

  @Says("The TAPE, which is empty then, tells a STONE more: its number")
  static void promise05_theTapeIsEmptyThen() {
    UnreadSigns x = spaced(3);
    due("no WORDS", x.words(), 0);
    due("the first", stone(x, "ab"), 0);
    due("the TAPE", x.count(17), 0);
    due("an empty TAPE tells none", x.stone(), fault(0, 1));
    due("WORDS", x.words(), 1);
    due("the next", stone(x, "ba"), 1);
    due("WORDS", x.words(), 2);
    same("the first stays", row(x, 0, 0), "ab");
    due("STONES", x.count(2), 2);
  }

  @Says("its number; -2 - its FAULT, and but for the TAPE nothing happens; NONE, and nothing happens (the TAPE stays, too), if there are 6.")
  static void promise05_aFaultChangesNothing() {
    refused("a wrong byte", Bench::desk, x -> stone(x, "x?"), fault(0, 2));
    refused("a fault in the last ROW", Bench::desk, x -> stone(x, "abc/abc/abc/abcabcabcab"), fault(22, 3));
    refused("a fifth ROW", Bench::desk, x -> stone(x, "a/b/c/d/e"), fault(8, 3));
    refused("the text ends", Bench::desk, x -> stone(x, "a/b/"), fault(4, 1));
    UnreadSigns x = spaced(3);
    for (int s = 0; s < 5; s++) stone(x, "ab");
    due("a fault ahead of the sixth", stone(x, "a/b/c/a/b"), fault(8, 3));
    due("the TAPE", x.count(17), 0);
    due("the sixth", stone(x, "a"), 5);
  }

  private static UnreadSigns sixStones() {
    UnreadSigns x = spaced(6, "a", "b", "c", "d", "e", "ab");
    x.loose(1);
    return x;
  }

  @Says("NONE, and nothing happens (the TAPE stays, too), if there are 6.")
  static void promise05_aSeventh() {
    refused("a seventh", BoundaryTexts::sixStones, UnreadSigns::stone, -1);
    UnreadSigns x = sixStones();
    due("a seventh", stone(x, "ab"), -1);
    due("the TAPE", x.count(17), 2);
    due("its bytes", x.comes(), 1);
    due("a seventh with a FAULT", stone(x, "?"), -1);
    due("the TAPE", x.count(17), 1);
    due("STONES", x.count(2), 6);
    due("other FORMS", forms(x, filled(0, 3)), 2);
    due("room again", stone(x, "ab"), 0);
  }

  // ---- promise 6: the text of a NAME

  @Says("SYLLABLE { SYLLABLE }, 2 to 7.")
  static void promise06_twoToSevenSyllables() {
    due("none", name(fresh(), ""), fault(0, 1));
    due("one", name(fresh(), "ka"), fault(2, 1));
    for (int n = 2; n <= 7; n++) due(n + " syllables", name(fresh(), "ka".repeat(n)), 0);
    due("eight", name(fresh(), "ka".repeat(8)), fault(14, 2));
  }

  @Says("SYLLABLE: a consonant (p t k m n r l s w j, 0 to 9), a vowel (a e i o u, 0 to 4).")
  static void promise06_consonantsAndVowels() {
    for (int c = 0; c < 10; c++)
      for (int v = 0; v < 5; v++) {
        UnreadSigns x = rows(2, "ab");
        String syllable = "" + "ptkmnrlswj".charAt(c) + "aeiou".charAt(v);
        int other = c == 3 && v == 3 ? 1 : 3;
        due(syllable, name(x, syllable + (other == 1 ? "me" : "mo")), 0);
        x.guess(0, c, v);
        x.guess(1, 3, other);
        due(syllable + " is " + c + " " + v, x.hits(), 1);
        x.guess(0, (c + 1) % 10, v);
        due(syllable + " is no other consonant", x.hits(), 0);
        x.guess(0, c, (v + 1) % 5);
        due(syllable + " is no other vowel", x.hits(), 0);
      }
  }

  @Says("(No blanks.) NAMES 0 to 3.")
  static void promise06_noBlanksAndFourNames() {
    due("ahead", name(fresh(), " kato"), fault(0, 1));
    due("between", name(fresh(), "ka to"), fault(2, 1));
    due("within", name(fresh(), "k ato"), fault(1, 1));
    due("at the end", name(fresh(), "kato "), fault(4, 1));
    UnreadSigns x = fresh();
    String[] names = {"kato", "tako", "kotakotakotako", "jujuju"};
    for (int n = 0; n < 4; n++) due(names[n], name(x, names[n]), n);
    due("NAMES", x.count(9), 4);
    due("the last one", x.fits(3, -1), 0);
    due("no fifth", x.fits(4, -1), -1);
  }

  // ---- promise 6: FAULTS of a NAME

  @Says("NAMES 0 to 3. FAULT: 1 as above")
  static void promise06_eachByte() {
    for (int b = 0; b < 256; b++) {
      boolean consonant = b != 0 && "ptkmnrlswj".indexOf(b) >= 0, vowel = b != 0 && "aeiou".indexOf(b) >= 0;
      due("first byte " + b, name(fresh(), (char) b + "ato"), consonant ? 0 : fault(0, 1));
      due("second byte " + b, name(fresh(), "k" + (char) b + "to"), vowel ? 0 : fault(1, 1));
      due("fifth byte " + b, name(fresh(), "kato" + (char) b), consonant ? fault(5, 1) : fault(4, 1));
      due("14th byte " + b, name(fresh(), "kakakakakakak" + (char) b), vowel ? 0 : fault(13, 1));
    }
    String text = "katoka";
    for (int n : new int[] {0, 1, 2, 3, 5}) due("the first " + n + " bytes", name(fresh(), text.substring(0, n)), fault(n, 1));
  }

  @Says("2 an eighth SYLLABLE (where it begins)")
  static void promise06_anEighthSyllable() {
    due("an eighth", name(fresh(), "ka".repeat(8)), fault(14, 2));
    due("a ninth, too", name(fresh(), "ka".repeat(9)), fault(14, 2));
    due("150", name(fresh(), "ka".repeat(150)), fault(14, 2));
    due("its consonant", name(fresh(), "ka".repeat(7) + "p"), fault(14, 2));
    due("no consonant", name(fresh(), "ka".repeat(7) + "a"), fault(14, 1));
    due("a fault ahead of it", name(fresh(), "ka".repeat(6) + "kxka"), fault(13, 1));
    due("seven", name(fresh(), "ka".repeat(7)), 0);
  }

  @Says("3 the NAME is one told already (place 0: told if it is right to its end).")
  static void promise06_toldAlready() {
    UnreadSigns x = fresh();
    name(x, "kato");
    name(x, "kakakakakakaka");
    due("the first", name(x, "kato"), fault(0, 3));
    due("another one, of seven", name(x, "kakakakakakaka"), fault(0, 3));
    due("a wrong byte behind it", name(x, "kato?"), fault(4, 1));
    due("the text ends within a SYLLABLE behind it", name(x, "katok"), fault(5, 1));
    due("an eighth SYLLABLE behind it", name(x, "kakakakakakakaka"), fault(14, 2));
    due("it goes on", name(x, "katoka"), 2);
    due("a beginning of one", name(x, "kaka"), 3);
    for (int i = 0; i < 4; i++) {
      StringBuilder b = new StringBuilder("kato");
      b.setCharAt(i, i % 2 == 0 ? 'm' : 'u');
      UnreadSigns y = fresh();
      name(y, "kato");
      due("unlike in place " + i, name(y, b.toString()), 1);
    }
    UnreadSigns z = desk();
    forms(z, "");
    due("told ahead of other FORMS", name(z, "kato"), fault(0, 3));
  }

  // ---- promise 6: what name() does

  @Says("The TAPE, which is empty then, tells a NAME more: its number")
  static void promise06_theTapeIsEmptyThen() {
    UnreadSigns x = rows(6, "ab/cd");
    due("no NAMES", x.ways(-1), 1);
    due("the first", name(x, "kato"), 0);
    due("the TAPE", x.count(17), 0);
    due("WAYS", x.ways(-1), 2);
    due("an empty TAPE tells none", x.name(), fault(0, 1));
    due("the next", name(x, "sumi"), 1);
    due("it FITS", x.fits(1, -1), 2);
    due("the first stays", name(x, "kato"), fault(0, 3));
  }

  @Says("its number; -2 - its FAULT, and but for the TAPE nothing happens; NONE, and nothing happens (the TAPE stays, too), if there are 4.")
  static void promise06_aFaultChangesNothing() {
    refused("a wrong byte", Bench::desk, x -> name(x, "kax"), fault(2, 1));
    refused("an eighth", Bench::desk, x -> name(x, "ka".repeat(8)), fault(14, 2));
    refused("told already", Bench::desk, x -> name(x, "kato"), fault(0, 3));
    UnreadSigns x = fresh();
    name(x, "kato");
    name(x, "kato");
    due("the TAPE", x.count(17), 0);
    due("what had a fault is not told", name(x, "toka"), 1);
  }

  private static UnreadSigns fourNames() {
    UnreadSigns x = desk();
    name(x, "pipo");
    name(x, "pipopu");
    return x;
  }

  @Says("NONE, and nothing happens (the TAPE stays, too), if there are 4.")
  static void promise06_aFifth() {
    refused("a fifth", BoundaryTexts::fourNames, UnreadSigns::name, -1);
    UnreadSigns x = fourNames();
    due("a fifth", name(x, "ab"), -1);
    due("the TAPE", x.count(17), 2);
    due("its bytes", x.comes(), 2);
    due("one told already", name(x, "kato"), -1);
    due("the TAPE", x.count(17), 4);
    due("NAMES", x.count(9), 4);
    due("other FORMS", forms(x, ""), 0);
    due("NAMES stay, so a fifth", name(x, "lulu"), -1);
  }
}
