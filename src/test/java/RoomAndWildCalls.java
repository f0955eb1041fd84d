import java.lang.management.ManagementFactory;
import java.util.Random;

/** Calls of any kind with any numbers never throw and always end; once an object is made, no call makes anything. */
public final class RoomAndWildCalls {
  private static final int[] EDGES = {Integer.MIN_VALUE, Integer.MIN_VALUE + 1, Integer.MIN_VALUE + 3, -3, -2, -1, 0, 1, 2, 3, 4, 5, 6,
      7, 8, 9, 10, 15, 19, 20, 21, 25, 50, 99, 119, 120, 299, 300, 301, 400, 65536, Integer.MAX_VALUE - 1, Integer.MAX_VALUE};
  private static final String[] TEXTS = {"", "1 0 0 0 0;3 0 0 0 0;31 31 0 0 0;0 31 31 31 1;", "ab/cd./.abcd", "aab/bba", "abcdabcdab",
      "kato", "katoka", "pate", "pupupupupupupu", "a", "ab", "abc", "?", "99", "/////", "................"};

  private static int any(Random by) { return by.nextInt(3) == 0 ? EDGES[by.nextInt(EDGES.length)] : by.nextInt(9) - 2; }

  private static void tell(UnreadSigns x, String text) {
    for (int at = 0; at < text.length(); at += 20) {
      int a = 0, b = 0, c = 0, d = 0, e = 0;
      for (int i = 0; i < 20; i++) {
        int v = at + i < text.length() ? text.charAt(at + i) : 0;
        if (i < 4) a = a << 8 | v; else if (i < 8) b = b << 8 | v; else if (i < 12) c = c << 8 | v;
        else if (i < 16) d = d << 8 | v; else e = e << 8 | v;
      }
      x.feed(a, b, c, d, e);
    }
    x.end(text.length());
  }

  private static long call(UnreadSigns x, Random by) {
    int a = any(by), b = any(by), c = any(by);
    boolean is = by.nextBoolean();
    switch (by.nextInt(48)) {
      case 0: return x.feed(a, b, c, a, b);
      case 1: return x.end(a);
      case 2: if (by.nextInt(9) != 0) return 0; x.end(0); tell(x, TEXTS[by.nextInt(2)]); return x.forms();
      case 3: case 4: x.end(0); tell(x, TEXTS[by.nextInt(TEXTS.length)]); return x.stone();
      case 5: case 6: x.end(0); tell(x, TEXTS[by.nextInt(TEXTS.length)]); return x.name();
      case 7: case 8: x.end(0); tell(x, TEXTS[by.nextInt(TEXTS.length)]); return is ? x.comes() : x.next();
      case 9: return x.unlike(a, b);
      case 10: return x.sign(a);
      case 11: return x.size(a);
      case 12: return x.tree(a, b);
      case 13: return x.loose(a);
      case 14: return x.alike(a, b, is) ? 1 : 0;
      case 15: return x.apart(a, b, is) ? 1 : 0;
      case 16: return x.way(a);
      case 17: return x.judged(a);
      case 18: return x.read(a, b, c);
      case 19: return x.comes();
      case 20: return x.next();
      case 21: return x.rise(a);
      case 22: return x.words();
      case 23: return x.word(a, b);
      case 24: return x.rank(a);
      case 25: return x.stands(a, b);
      case 26: return x.ahead(a, b);
      case 27: return x.stem(a, b);
      case 28: return x.clue(a, b, is);
      case 29: return x.clues(is);
      case 30: return x.place(a, is);
      case 31: return x.clash(a);
      case 32: return x.clashes();
      case 33: case 34: return x.guess(a, b, c);
      case 35: return x.known(a, b);
      case 36: return x.fits(a, b);
      case 37: return x.hits();
      case 38: return x.ways(a);
      case 39: return x.draws(a);
      case 40: return x.test(a);
      case 41: return x.undo();
      case 42: return x.stone();
      case 43: return x.name();
      case 44: return by.nextInt(9) == 0 ? x.forms() : 0;
      default: return x.count(a);
    }
  }

  private static long run(UnreadSigns x, Random by, int calls) {
    long sum = 0;
    for (int n = 0; n < calls; n++) sum = sum * 31 + call(x, by);
    return sum;
  }

  /** Six STONES of full ROWS and four NAMES: the dearest that there is. */
  private static UnreadSigns fullOffice(Random by, int letters) {
    UnreadSigns x = new UnreadSigns();
    StringBuilder b = new StringBuilder();
    for (int i = 1; i <= 20; i++) b.append(i).append(" ").append(31 - i).append(" 0 0 0;");
    tell(x, b.toString());
    if (x.forms() != 20) throw new IllegalStateException();
    for (int s = 0; s < 6; s++) {
      b.setLength(0);
      for (int r = 0; r < 4; r++) {
        for (int k = 0; k < 10; k++) b.append((char) ('a' + by.nextInt(letters)));
        b.append(r < 3 ? "/" : "");
      }
      tell(x, b.toString());
      if (x.stone() != s) throw new IllegalStateException();
    }
    for (String n : new String[] {"kato", "pimi", "sune", "toka"}) { tell(x, n); x.name(); }
    x.loose(0);
    x.rise(1);
    return x;
  }

  public static void main(String[] args) {
    com.sun.management.ThreadMXBean room = (com.sun.management.ThreadMXBean) ManagementFactory.getThreadMXBean();
    int wrong = 0;
    for (int seed = 1; seed <= 2000; seed++) {
      long once = run(new UnreadSigns(), new Random(seed * 7919L), 512);
      if (seed % 100 == 0 && once != run(new UnreadSigns(), new Random(seed * 7919L), 512)) { wrong++; System.out.println("not the same answers twice"); }
    }
    long most = 0, words = 0, began = System.nanoTime();
    Random by = new Random(42);
    for (int n = 0; n < 40; n++) {
      UnreadSigns x = fullOffice(by, 3 + n % 18);
      words = Math.max(words, x.words());
      for (int k = 0; k < 100; k++) { x.way(k % 3); x.ways(-1); x.test(50); run(x, by, 2); }
    }
    for (int n = 0; n < 200; n++) {
      UnreadSigns x = new UnreadSigns();
      long before = room.getThreadAllocatedBytes(Thread.currentThread().getId());
      run(x, by, 512);
      most = Math.max(most, room.getThreadAllocatedBytes(Thread.currentThread().getId()) - before);
    }
    if (most > 2000) { wrong++; System.out.println("calls make " + most + " bytes"); }
    System.out.println((wrong == 0 ? "no call throws, no call makes anything" : wrong + " things are wrong") + "; "
        + words + " words at the most; " + (System.nanoTime() - began) / 1000000 + " ms");
    if (wrong != 0) System.exit(1);
  }
}
