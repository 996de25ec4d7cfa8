/** Promises 1 to 3 and the texts of squares: a new object, lay, read. */
public final class SquaresTest {
  private static final Check check = new Check("SquaresTest");

  public static void main(String[] args) {
    newObject();
    layBySeed();
    layEdges();
    layEndsTheRound();
    layIsAnAct();
    readSquares();
    readFaults();
    readEndsTheRound();
    check.end();
  }

  private static void newObject() {
    check.promise(1);
    SquareStakes x = new SquareStakes();
    check.due("numbers", Check.numbers(x), "1 2 3 4 5 6 7 8 9");
    int[] counts = {3, 15, 24, 4, 0, 0, 0, 0, 0, 0, 3, 1, 2, 0, 0, 0};
    for (int what = 0; what < counts.length; what++) { check.due("count(" + what + ")", x.count(what), counts[what]); }
    for (int rival = 0; rival < 3; rival++) {
      check.due("purse of " + rival, x.rival(rival, 0), 100);
      check.due("squares won by " + rival, x.rival(rival, 1), 0);
    }
    for (int cell = 0; cell < 9; cell++) { check.due("frozen " + cell, x.cell(cell, 1), 0); }
    check.due("undo()", x.undo(), -5);
    check.due("restore()", x.restore(), -5);
    check.due("read()", x.read(), -100);
    SquareStakes other = new SquareStakes();
    x.swap(0, 1);
    check.due("objects stay apart", Check.numbers(other), "1 2 3 4 5 6 7 8 9");
  }

  private static void layBySeed() {
    check.promise(2);
    SquareStakes x = new SquareStakes();
    check.due("lay(3, 0)", x.lay(3, 0), 17);
    check.due("numbers of lay(3, 0)", Check.numbers(x), "2 5 4 9 6 1 7 3 8");
    check.due("way off", x.count(2), 17);
    check.due("lay(4, 77)", x.lay(4, 77), 66);
    check.due("side", x.count(0), 4);
    check.due("lay(3, 0) again", x.lay(3, 0), 17);
    check.due("numbers again", Check.numbers(x), "2 5 4 9 6 1 7 3 8");
    for (int seed = 0; seed <= 9999; seed += 101) { laidAsTold(3, seed); laidAsTold(4, seed); }
    laidAsTold(3, 9999);
    laidAsTold(4, 9999);
  }

  private static void laidAsTold(int side, int seed) {
    int cells = side * side;
    int[] numbers = new int[cells];
    for (int i = 0; i < cells; i++) { numbers[i] = i + 1; }
    int rolling = seed;
    for (int k = cells - 1; k >= 1; k--) {
      rolling = (421 * rolling + 1663) % 10000;
      int kept = numbers[k];
      numbers[k] = numbers[rolling % (k + 1)];
      numbers[rolling % (k + 1)] = kept;
    }
    StringBuilder want = new StringBuilder();
    for (int number : numbers) { want.append(want.length() == 0 ? "" : " ").append(number); }
    SquareStakes x = new SquareStakes();
    int off = x.lay(side, seed);
    check.due("lay(" + side + ", " + seed + ")", Check.numbers(x), want.toString());
    check.due("way off of lay(" + side + ", " + seed + ")", off, x.count(2));
  }

  private static void layEdges() {
    check.promise(2);
    int[][] wrong = {{2, 0}, {5, 0}, {0, 0}, {-3, 0}, {3, -1}, {4, -1}, {3, 10000}, {4, 10000}, {2, -1},
      {Integer.MAX_VALUE, 0}, {Integer.MIN_VALUE, 0}, {3, Integer.MAX_VALUE}, {3, Integer.MIN_VALUE}};
    SquareStakes x = busy();
    String before = Check.pictureOf(x);
    for (int[] one : wrong) { check.due("lay(" + one[0] + ", " + one[1] + ")", x.lay(one[0], one[1]), -2); }
    check.due("nothing changed", Check.pictureOf(x), before);
  }

  /** Freezes, stakes, swaps, a won square: the purses are 94, 100 - 4 - 7, 90. */
  private static SquareStakes busy() {
    SquareStakes x = new SquareStakes();
    x.stake(0, 0, 5);
    x.swap(0, 1);
    x.stake(1, 1, 7);
    x.freeze(4, 2);
    x.stake(2, 2, 9);
    x.swap(2, 3);
    return x;
  }

  private static void endsTheRound(SquareStakes x, String how) {
    check.due("pot behind " + how, x.count(5), 6 + 21);
    check.due("turn behind " + how, x.count(4), 0);
    check.due("stakes behind " + how, x.count(6), 0);
    check.due("table behind " + how, x.count(15), 0);
    check.due("swaps of the round behind " + how, x.count(7), 0);
    check.due("all swaps behind " + how, x.count(8), 2);
    check.due("frozen behind " + how, x.count(9), 0);
    check.due("frozen cell behind " + how, x.cell(4, 1), 0);
    check.due("purse 0 behind " + how, x.rival(0, 0), 94);
    check.due("purse 1 behind " + how, x.rival(1, 0), 89);
    check.due("purse 2 behind " + how, x.rival(2, 0), 90);
    check.due("stakes of a line behind " + how, x.line(1, 3), 0);
    check.due("stakes of a rival behind " + how, x.rival(1, 2), 0);
  }

  private static void layEndsTheRound() {
    check.promise(2);
    SquareStakes x = busy();
    check.due("pot ahead", x.count(5), 6);
    check.due("swaps of the round ahead", x.count(7), 2);
    check.due("frozen ahead", x.cell(4, 1), 1);
    x.lay(3, 5);
    endsTheRound(x, "lay");
    SquareStakes won = Check.squareOf("492357816");
    won.swap(0, 1);
    won.swap(0, 1);
    check.due("squares won", won.rival(1, 1), 1);
    won.set(0, 7);
    won.pass();
    won.lay(4, 0);
    check.due("squares won stay", won.rival(1, 1), 1);
    check.due("settings stay", won.count(10), 7);
    check.due("the turn stays", won.count(4), 0);
    check.due("all swaps stay", won.count(8), 2);
    won.lay(3, 0);
    won.swap(0, 1);
    check.due("round begins anew", won.count(7), 1);
  }

  private static void layIsAnAct() {
    check.promise(2);
    SquareStakes x = busy();
    String before = Check.stateOf(x);
    x.lay(4, 12);
    check.due("undo()", x.undo(), 3);
    check.due("lay is undone", Check.stateOf(x), before);
    SquareStakes same = new SquareStakes();
    same.lay(3, 1);
    same.lay(3, 1);
    check.due("the same square is an act, too", same.count(13), 2);
  }

  private static void readSquares() {
    check.promise(3);
    SquareStakes x = new SquareStakes();
    Check.type(x, "492357816");
    check.due("read()", x.read(), 0);
    check.due("numbers", Check.numbers(x), "4 9 2 3 5 7 8 1 6");
    check.due("magic lines", x.count(3), 8);
    check.due("the text stays", x.count(14), 9);
    check.due("history", x.count(13), 1);
    check.due("read() again", x.read(), 0);
    check.due("history again", x.count(13), 2);
    check.due("none is won by reading", x.rival(0, 1), 0);
    Check.type(x, "abcdefghijklmnop");
    check.due("read() of letters", x.read(), 80);
    check.due("numbers of letters", Check.numbers(x), "1 2 3 4 5 6 7 8 9 10 11 12 13 14 15 16");
    check.due("side of letters", x.count(0), 4);
    check.due("text of letters", x.count(14), 16);
    Check.type(x, "pcbmejkhifgldona");
    check.due("read() of magic letters", x.read(), 0);
    check.due("magic letters", Check.numbers(x), "16 3 2 13 5 10 11 8 9 6 7 12 4 15 14 1");
    check.due("all lines are magic", x.count(3), 10);
    Check.type(x, "987654321");
    check.due("read() of digits", x.read(), 24);
    check.due("numbers of digits", Check.numbers(x), "9 8 7 6 5 4 3 2 1");
    check.due("undo()", x.undo(), 3);
    check.due("undone to letters", x.count(0), 4);
    check.due("the text is no state", x.count(14), 9);
  }

  private static void fault(String text, int want) {
    SquareStakes x = new SquareStakes();
    x.lay(4, 3);
    Check.type(x, text);
    String before = Check.pictureOf(x);
    check.due("read() of '" + text + "'", x.read(), -100 - want);
    check.due("nothing changed by '" + text + "'", Check.pictureOf(x), before);
  }

  private static void readFaults() {
    check.promise(3);
    fault("", 0);
    fault("0", 0);
    fault(":", 0);
    fault("q", 0);
    fault("`", 0);
    fault("A", 0);
    fault(" 12345678", 0);
    fault("1", 1);
    fault("9", 1);
    fault("a", 1);
    fault("p", 1);
    fault("11", 1);
    fault("112", 1);
    fault("1a", 1);
    fault("a1", 1);
    fault("aa", 1);
    fault("10", 1);
    fault("12345678", 8);
    fault("123456780", 8);
    fault("123456788", 8);
    fault("123456781", 8);
    fault("12345678a", 8);
    fault("1234567891", 9);
    fault("123456789a", 9);
    fault("123456789 ", 9);
    fault("abcdefghijklmno", 15);
    fault("abcdefghijklmnoq", 15);
    fault("abcdefghijklmnoa", 15);
    fault("abcdefghijklmnoo", 15);
    fault("abcdefghijklmnopa", 16);
    fault("abcdefghijklmnopq", 16);
    fault("abcdefghi", 9);
    fault("abcdB", 4);
    fault("123\u0234", 3);
    fault("123\uffff", 3);
    fault("\u0131", 0);
    fault("12" + (char) (48 + 256 + 3), 2);
    fault("\0", 0);
    StringBuilder longest = new StringBuilder("abcdefghijklmnop");
    while (longest.length() < 60) { longest.append('1'); }
    fault(longest.toString(), 16);
  }

  private static void readEndsTheRound() {
    check.promise(3);
    SquareStakes x = busy();
    Check.type(x, "123456789");
    String before = Check.stateOf(x);
    check.due("read()", x.read(), 24);
    endsTheRound(x, "read");
    check.due("undo()", x.undo(), 3);
    check.due("read is undone", Check.stateOf(x), before);
  }
}
