/** The boundary cases of the sentences on squares (Terms) and of the promises 1 to 3; a function for each sentence. */
public final class BoundSquaresTest {
  private static final int UNKNOWN = -1;
  private static final int BAD_VALUE = -2;
  private static final int NONE = -5;
  private static final int[] FAR = {Integer.MIN_VALUE, Integer.MIN_VALUE + 1, -10000, 100000, Integer.MAX_VALUE - 1, Integer.MAX_VALUE};
  private static final Check check = new Check("BoundSquaresTest");

  public static void main(String[] args) {
    theSide();
    theCells();
    rowByRow();
    eachNumberOnce();
    theLinesNumbers();
    theSumOfALine();
    theMagicNumber();
    aMagicLine();
    aMagicSquare();
    theWayOff();

    aNewObject();

    theSideOfLay();
    theSeedOfLay();
    theNumbersOfLay();
    whatIsGoneBehindLay();
    cellsThatAreGoneThaw();
    theStakesOfLayGoToThePot();
    allElseStaysBehindLay();
    layIsAnAct();
    theAnswerOfLay();

    theTextStays();
    readElseAsLay();
    readIsAnAct();
    theAnswerOfRead();
    check.end();
  }

  // ---- Terms, squares

  private static void theSide() {
    check.sentence("Squares", "The side n is 3 or 4 (3 at first).");
    Parlour x = check.open();
    check.due(x.count(0), 3);
    check.due(x.lay(2, 0), BAD_VALUE);
    check.due(x.count(0), 3);
    x.lay(4, 0);
    check.due(x.count(0), 4);
    check.due(x.lay(5, 0), BAD_VALUE);
    check.due(x.count(0), 4);
    x.lay(3, 0);
    check.due(x.count(0), 3);
    x.read(Parlour.IN_ORDER_4);
    check.due(x.count(0), 4);
    x.read(Parlour.IN_ORDER_3);
    check.due(x.count(0), 3);
  }

  private static void theCells() {
    check.sentence("Squares", "There are n * n cells");
    Parlour x = check.open();
    check.due(x.cell(-1, 0), UNKNOWN);
    check.due(x.cell(0, 0), 1);
    check.due(x.cell(8, 0), 9);
    check.due(x.cell(9, 0), UNKNOWN);
    x.read(Parlour.IN_ORDER_4);
    check.due(x.cell(-1, 0), UNKNOWN);
    check.due(x.cell(0, 0), 1);
    check.due(x.cell(9, 0), 10);
    check.due(x.cell(15, 0), 16);
    check.due(x.cell(16, 0), UNKNOWN);
    x.read(Parlour.IN_ORDER_3);
    check.due(x.cell(8, 0), 9);
    check.due(x.cell(9, 0), UNKNOWN);
    check.due(x.cell(15, 0), UNKNOWN);
  }

  private static void rowByRow() {
    check.sentence("Squares", "numbered row by row from 0");
    Parlour x = check.open();
    // the rows' and the columns' last and first cells stand side by side
    check.due(x.line(0, 0), 1 + 2 + 3);
    check.due(x.line(1, 0), 4 + 5 + 6);
    check.due(x.line(3, 0), 1 + 4 + 7);
    check.due(x.line(5, 0), 3 + 6 + 9);
    x.read(Parlour.IN_ORDER_4);
    check.due(x.line(0, 0), 1 + 2 + 3 + 4);
    check.due(x.line(1, 0), 5 + 6 + 7 + 8);
    check.due(x.line(4, 0), 1 + 5 + 9 + 13);
    check.due(x.line(7, 0), 4 + 8 + 12 + 16);
  }

  private static void eachNumberOnce() {
    check.sentence("Squares", "they hold the numbers from 1 to n * n, each once (at first in their order)");
    Parlour x = check.open();
    check.due("the numbers at first", x.numbers(), "1 2 3 4 5 6 7 8 9");
    int[] seeds = {0, 1, 77, 4544, 9998, 9999};
    for (int seed : seeds) {
      x.lay(4, seed);
      holdsEachOnce(x, 16);
      x.lay(3, seed);
      holdsEachOnce(x, 9);
    }
    x.swap(0, 8);
    holdsEachOnce(x, 9);
    x.read(Parlour.MAGIC_4);
    holdsEachOnce(x, 16);
    x.swap(15, 0);
    holdsEachOnce(x, 16);
  }

  private static void holdsEachOnce(Parlour x, int cells) {
    int seen = 0;
    for (int cell = 0; cell < cells; cell++) { seen |= 1 << x.cell(cell, 0); }
    check.due("one bit for each number from 1 to " + cells, seen, (1 << cells + 1) - 2);
  }

  private static void theLinesNumbers() {
    check.sentence("Squares", "The lines are numbered: the rows from 0 to n - 1, the columns from n to 2 * n - 1, "
        + "then the diagonal from the first cell to the last one, then the other one");
    Parlour x = check.open();
    x.read("571698423"); // 5 7 1 / 6 9 8 / 4 2 3: no two sums are the same
    check.due("the eight sums", x.sums(), "13 23 9 15 18 12 17 14");
    check.due(x.line(-1, 0), UNKNOWN);
    check.due(x.line(8, 0), UNKNOWN);
    check.due(x.line(9, 0), UNKNOWN);
    x.read("dmbhijlkfencagpo"); // 4 13 2 8 / 9 10 12 11 / 6 5 14 3 / 1 7 16 15
    check.due("the ten sums", x.sums(), "27 42 28 39 20 35 44 37 43 26");
    check.due(x.line(-1, 0), UNKNOWN);
    check.due(x.line(10, 0), UNKNOWN);
    x.lay(3, 0);
    check.due(x.line(7, 0), 17);
    check.due(x.line(8, 0), UNKNOWN);
    check.due(x.line(9, 0), UNKNOWN);
  }

  private static void theSumOfALine() {
    check.sentence("Squares", "the sum of a line is that of the numbers in it");
    Parlour x = check.open();
    // the least and the greatest sums, as a row, a column, either diagonal
    check.due(x.line(0, 0), 6);
    check.due(x.line(2, 0), 24);
    x.read("147258369");
    check.due(x.line(3, 0), 6);
    check.due(x.line(5, 0), 24);
    x.read("145627893");
    check.due(x.line(6, 0), 6);
    x.read("416738259");
    check.due(x.line(7, 0), 6 + 3 + 2);
    x.read("219483756");
    check.due(x.line(7, 0), 9 + 8 + 7);
    x.read(Parlour.IN_ORDER_4);
    check.due(x.line(0, 0), 10);
    check.due(x.line(3, 0), 58);
    x.read("aeimbfjncgkodhlp");
    check.due(x.line(4, 0), 10);
    check.due(x.line(7, 0), 58);
    x.read("pabcdoefghnijklm");
    check.due(x.line(8, 0), 16 + 15 + 14 + 13);
    x.read("efgahibjkclmdnop");
    check.due(x.line(9, 0), 1 + 2 + 3 + 4);
  }

  private static void theMagicNumber() {
    check.sentence("Squares", "The magic number is n * (n * n + 1) / 2 (15 or 34).");
    Parlour x = check.open();
    check.due(x.count(1), 15);
    x.lay(4, 0);
    check.due(x.count(1), 34);
    x.lay(3, 0);
    check.due(x.count(1), 15);
    x.undo();
    check.due(x.count(1), 34);
  }

  private static void aMagicLine() {
    check.sentence("Squares", "A line is magic if its sum is this.");
    Parlour x = check.open();
    x.read("213456789");
    check.due("sums", x.sums(), "6 15 24 13 14 18 16 15");
    check.due(x.line(4, 2), 0); // one less
    check.due(x.line(1, 2), 1);
    check.due(x.line(6, 2), 0); // one more
    check.due(x.line(0, 2), 0);
    check.due(x.line(2, 2), 0);
    check.due(x.count(3), 2);
    x.read("nfdhjlapbomgikec");
    check.due("sums of four", x.sums(), "32 39 37 28 35 44 23 34 42 33");
    check.due(x.line(9, 2), 0); // one less
    check.due(x.line(7, 2), 1);
    check.due(x.line(4, 2), 0); // one more
    check.due(x.count(3), 1);
  }

  private static void aMagicSquare() {
    check.sentence("Squares", "A square is magic if all its lines are.");
    // all but one diagonal (more rows or columns than that can't be off alone)
    oneLineIsOff("537942186", 7, 12, 7);
    oneLineIsOff("735249681", 6, 12, 7);
    oneLineIsOff("abopkncfihlemjdg", 9, 40, 9);
    oneLineIsOff("abopkncfleihjmgd", 8, 28, 9);
    Parlour magic = check.open();
    magic.read(Parlour.MAGIC_3);
    magic.swap(0, 1);
    check.due(magic.swap(0, 1), 8);
    check.due(magic.rival(1, 1), 1);
    Parlour four = check.open();
    four.read(Parlour.MAGIC_4);
    four.swap(0, 1);
    check.due(four.swap(0, 1), 10);
    check.due(four.rival(1, 1), 1);
  }

  /** A swap that makes all lines but one magic wins nothing. */
  private static void oneLineIsOff(String text, int line, int sum, int magicLines) {
    Parlour x = check.open();
    x.read(text);
    check.due(x.line(line, 0), sum);
    check.due(x.count(3), magicLines);
    x.swap(0, 1);
    check.due(x.swap(0, 1), magicLines);
    check.due(x.rival(1, 1), 0);
    check.due(x.rival(1, 0), 99);
    check.due(x.count(5), 2);
  }

  private static void theWayOff() {
    check.sentence("Squares", "The way off of a square is the sum, over all lines, of the difference between the line's sum "
        + "and the magic number, without a sign.");
    Parlour x = check.open();
    // in order, what the lines have too little and too much would be nothing in all
    check.due(x.count(2), 9 + 0 + 9 + 3 + 0 + 3 + 0 + 0);
    x.read(Parlour.IN_ORDER_4);
    check.due(x.count(2), 24 + 8 + 8 + 24 + 6 + 2 + 2 + 6 + 0 + 0);
    x.read(Parlour.MAGIC_3);
    check.due(x.count(2), 0);
    x.read(Parlour.MAGIC_4);
    check.due(x.count(2), 0);
    x.read("537942186"); // each diagonal counts
    check.due(x.count(2), 3);
    x.read("735249681");
    check.due(x.count(2), 3);
    x.read("abopkncfihlemjdg");
    check.due(x.count(2), 6);
    x.read("abopkncfleihjmgd");
    check.due(x.count(2), 6);
  }

  // ---- Promise 1

  private static void aNewObject() {
    check.sentence("Promise 1", "Creates a square of three in order.");
    Parlour x = check.open();
    check.due("the state", x.state(), "1 2 3 4 5 6 7 8 9 frozen 0 0 0 0 0 0 0 0 0 rivals 100 0 100 0 100 0 turn 0 pot 0"
        + " round 0 all 0 settings 3 1 2 stakes");
    check.due(x.count(13), 0);
    check.due(x.count(14), 0);
    check.due(x.count(15), 0);
    check.due(x.undo(), NONE);
    check.due(x.restore(), NONE);
    Parlour other = check.open();
    x.swap(0, 1);
    x.type('1');
    x.keep();
    check.due(other.cell(0, 0), 1);
    check.due(other.count(8), 0);
    check.due(other.count(14), 0);
    check.due(other.undo(), NONE);
    check.due(other.restore(), NONE);
  }

  // ---- Promise 2

  private static void theSideOfLay() {
    check.sentence("Promise 2", "side: 3 or 4");
    Parlour x = check.open();
    check.due(x.lay(2, 0), BAD_VALUE);
    check.due(x.lay(3, 0), 17);
    check.due(x.lay(4, 77), 66);
    check.due(x.lay(5, 0), BAD_VALUE);
    int[] wrong = {1, 0, -1, -3, -4, 6, 7, 9, 16};
    for (int side : wrong) { check.due(x.lay(side, 0), BAD_VALUE); }
    for (int side : FAR) { check.due(x.lay(side, 0), BAD_VALUE); }
    check.due(x.lay(2, -1), BAD_VALUE);
  }

  private static void theSeedOfLay() {
    check.sentence("Promise 2", "seed: 0 to 9999");
    for (int side = 3; side <= 4; side++) {
      Parlour x = check.open();
      check.due(x.lay(side, -1), BAD_VALUE);
      x.lay(side, 0);
      check.due("numbers of 0", x.numbers(), laid(side, 0));
      x.lay(side, 9999);
      check.due("numbers of 9999", x.numbers(), laid(side, 9999));
      check.due(x.lay(side, 10000), BAD_VALUE);
      for (int seed : FAR) { check.due(x.lay(side, seed), BAD_VALUE); }
      check.due("numbers then", x.numbers(), laid(side, 9999));
    }
  }

  private static void theNumbersOfLay() {
    check.sentence("Promise 2", "the numbers in order, and then, for k from n * n - 1 down to 1: the seed becomes "
        + "(421 * seed + 1663) % 10000, and the numbers of the cells k and seed % (k + 1) are exchanged");
    // by hand: 1663, 1786, 3569, 4212, 4915, 0878, 1301, 9384 and the cells 7, 2, 6, 0, 0, 2, 2, 0
    Parlour hand = check.open();
    hand.lay(3, 0);
    check.due("numbers of lay(3, 0)", hand.numbers(), "2 5 4 9 6 1 7 3 8");
    hand.lay(3, 0); // in order ahead of it, not as they lay
    check.due("numbers of lay(3, 0) again", hand.numbers(), "2 5 4 9 6 1 7 3 8");
    hand.lay(4, 9999);
    hand.lay(3, 0);
    check.due("numbers of lay(3, 0) behind four", hand.numbers(), "2 5 4 9 6 1 7 3 8");
    for (int side = 3; side <= 4; side++) {
      for (int seed = 0; seed <= 9999; seed++) {
        Parlour x = check.open();
        x.lay(side, seed);
        check.due("numbers of lay(" + side + ", " + seed + ")", x.numbers(), laid(side, seed));
      }
    }
  }

  private static String laid(int side, int seed) {
    int[] numbers = new int[side * side];
    for (int i = 0; i < numbers.length; i++) { numbers[i] = i + 1; }
    int rolling = seed;
    for (int k = numbers.length - 1; k >= 1; k--) {
      rolling = (421 * rolling + 1663) % 10000;
      int kept = numbers[k];
      numbers[k] = numbers[rolling % (k + 1)];
      numbers[rolling % (k + 1)] = kept;
    }
    StringBuilder told = new StringBuilder();
    for (int number : numbers) { told.append(told.length() == 0 ? "" : " ").append(number); }
    return told.toString();
  }

  /** Two swaps in the round, the first and the last cell frozen, stakes of each rival, the rival 1 at turn. */
  private static Parlour busy() {
    Parlour x = check.open();
    x.stake(0, 0, 20);
    x.swap(1, 2);
    x.stake(1, 1, 30);
    x.swap(2, 1);
    x.stake(2, 2, 40);
    x.freeze(0, 6);
    x.freeze(8, 3);
    check.due("busy", x.state(), "1 2 3 4 5 6 7 8 9 frozen 6 0 0 0 0 0 0 0 3 rivals 73 0 69 0 48 0 turn 1 pot 20"
        + " round 2 all 2 settings 3 1 2 stakes 0 0 0 20 6 3.25; 1 1 1 30 15 " + (1.0f + 2.0f / 8.0f) + "; 2 2 2 40 24 1.5;");
    return x;
  }

  private static void whatIsGoneBehindLay() {
    check.sentence("Promise 2", "Freezes, stakes (their amounts go to the pot) and the swaps of the round are gone");
    Parlour x = busy();
    x.lay(3, 4544);
    isGone(x);
    // a round anew: its third swap settles, not the first one
    x.stake(0, 0, 1);
    x.swap(0, 1);
    check.due(x.count(7), 1);
    check.due(x.count(6), 1);
    x.swap(0, 1);
    check.due(x.count(6), 1);
    x.swap(0, 1);
    check.due(x.count(6), 0);
    check.due(x.count(7), 0);
  }

  private static void isGone(Parlour x) {
    check.due(x.count(9), 0);
    check.due(x.cell(0, 1), 0);
    check.due(x.cell(8, 1), 0);
    check.due(x.count(6), 0);
    check.due(x.count(15), 0);
    check.due(x.stakeOf(0, 0), UNKNOWN);
    check.due(x.odds(0), -1.0f);
    check.due(x.meanOddsBits(), 0);
    check.due(x.line(0, 3), 0);
    check.due(x.rival(0, 3), 0);
    check.due(x.count(7), 0);
  }

  private static void cellsThatAreGoneThaw() {
    check.sentence("Promise 2", "Freezes ... are gone");
    Parlour x = check.open();
    x.set(2, 0);
    x.lay(4, 0);
    for (int cell = 0; cell < 16; cell++) { x.freeze(cell, 6); }
    check.due(x.count(9), 16);
    check.due(x.lay(3, 0), 17);
    check.due(x.count(9), 0);
    x.lay(4, 0);
    check.due(x.count(9), 0);
    for (int cell = 0; cell < 16; cell++) { check.due(x.cell(cell, 1), 0); }
    x.freeze(15, 6);
    x.lay(4, 1); // of the same side, too
    check.due(x.cell(15, 1), 0);
  }

  private static void theStakesOfLayGoToThePot() {
    check.sentence("Promise 2", "(their amounts go to the pot)");
    Parlour x = busy();
    x.lay(4, 0);
    check.due(x.count(5), 20 + 20 + 30 + 40);
    x.lay(4, 0);
    check.due(x.count(5), 110);
    Parlour ten = check.open();
    for (int i = 0; i < 10; i++) { ten.stake(6, 0, 10); } // all right, and lost none the less
    check.due(ten.rival(0, 4), 100);
    ten.lay(3, 0);
    check.due(ten.count(5), 100);
    check.due(ten.rival(0, 0), 0);
    Parlour none = check.open();
    none.lay(3, 0);
    check.due(none.count(5), 0);
  }

  private static void allElseStaysBehindLay() {
    check.sentence("Promise 2", "all else stays (purses, squares won, the turn, all swaps so far)");
    Parlour x = wonAndSet();
    x.lay(3, 0);
    check.due("all else", x.state(), "2 5 4 9 6 1 7 3 8 frozen 0 0 0 0 0 0 0 0 0 rivals 99 0 101 1 100 0 turn 2 pot 0"
        + " round 0 all 2 settings 9 0 5 stakes");
    check.due(x.count(14), 9);
    x.restore();
    check.due("the snapshot", x.numbers(), "4 9 2 3 5 7 8 1 6");
  }

  /** The rival 1 won a square, the settings are others, a snapshot is there, the rival 2 is at turn. */
  private static Parlour wonAndSet() {
    Parlour x = check.open();
    x.read(Parlour.MAGIC_3);
    x.keep();
    x.swap(0, 1);
    x.swap(0, 1);
    x.set(0, 9);
    x.set(1, 0);
    x.set(2, 5);
    check.due(x.rival(1, 1), 1);
    return x;
  }

  private static void layIsAnAct() {
    check.sentence("Promise 2", "This is an act.");
    Parlour x = busy();
    String before = x.state();
    x.lay(4, 12);
    check.due(x.undo(), 3);
    check.due("undone", x.state(), before);
    Parlour same = check.open();
    same.lay(3, 1);
    check.due(same.lay(3, 1), same.count(2)); // what changes nothing is one, too
    check.due(same.count(13), 2);
  }

  private static void theAnswerOfLay() {
    check.sentence("Promise 2", "Returns the way off then; BAD_VALUE.");
    Parlour x = check.open();
    x.freeze(0, 1);
    check.due(x.lay(3, 4544), 0); // 2 7 6 / 9 5 1 / 4 3 8: the one magic square of three that a seed lays
    check.due("magic", x.numbers(), "2 7 6 9 5 1 4 3 8");
    check.due(x.count(3), 8);
    check.due(x.rival(0, 1) + x.rival(1, 1) + x.rival(2, 1), 0); // won by a swap alone
    check.due(x.count(5), 2);
    check.due(x.lay(4, 77), 66);
    check.due(x.count(2), 66);
    check.due(x.lay(4, -1), BAD_VALUE);
    check.due(x.lay(3, 3), x.count(2));
  }

  // ---- Promise 3

  private static void theTextStays() {
    check.sentence("Promise 3", "Takes the square of the text, which stays");
    Parlour x = check.open();
    check.due(x.read(Parlour.MAGIC_3), 0);
    check.due("the square", x.numbers(), "4 9 2 3 5 7 8 1 6");
    check.due(x.count(14), 9);
    x.lay(3, 0);
    check.due(x.read(), 0);
    check.due("the square again", x.numbers(), "4 9 2 3 5 7 8 1 6");
    check.due(x.type('1'), 10);
    check.due(x.read(), -109);
    check.due(x.read(Parlour.IN_ORDER_4), 80);
    check.due(x.count(14), 16);
    check.due(x.read(), 80);
    x.read("0");
    check.due(x.count(14), 1); // one with a fault stays, too
  }

  private static void readElseAsLay() {
    check.sentence("Promise 3", "else as lay()");
    Parlour x = busy();
    x.read(Parlour.MAGIC_3);
    isGone(x);
    check.due(x.count(5), 20 + 20 + 30 + 40);
    Parlour four = check.open();
    four.set(2, 0);
    four.lay(4, 0);
    four.freeze(15, 6);
    four.read(Parlour.IN_ORDER_3);
    check.due(four.count(9), 0);
    four.read(Parlour.IN_ORDER_4);
    check.due(four.cell(15, 1), 0);
    Parlour won = wonAndSet();
    won.read("987654321");
    check.due("all else", won.state(), "9 8 7 6 5 4 3 2 1 frozen 0 0 0 0 0 0 0 0 0 rivals 99 0 101 1 100 0 turn 2 pot 0"
        + " round 0 all 2 settings 9 0 5 stakes");
    won.restore();
    check.due("the snapshot", won.numbers(), "4 9 2 3 5 7 8 1 6");
  }

  private static void readIsAnAct() {
    check.sentence("Promise 3", "This is an act.");
    Parlour x = busy();
    String before = x.state();
    x.read(Parlour.MAGIC_4);
    check.due(x.undo(), 3);
    check.due("undone", x.state(), before);
    Parlour same = check.open();
    same.read(Parlour.IN_ORDER_3);
    same.read();
    check.due(same.count(13), 2);
  }

  private static void theAnswerOfRead() {
    check.sentence("Promise 3", "Returns the way off then; -100 minus the fault of the text if it has one (which is an error).");
    Parlour x = check.open();
    check.due(x.read(), -100);
    check.due(x.read("1"), -101);
    check.due(x.read("abcdefghijklmnopa"), -116);
    check.due(x.count(13), 0);
    check.due(x.read(Parlour.MAGIC_4), 0);
    check.due(x.rival(0, 1), 0); // won by a swap alone
    check.due(x.read("987654321"), 24);
    check.due(x.count(2), 24);
    check.due(x.count(13), 2);
  }
}
