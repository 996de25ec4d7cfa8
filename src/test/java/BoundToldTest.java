/** The boundary cases of the promises 14 to 22: what is told; a function for each sentence. */
public final class BoundToldTest {
  private static final int UNKNOWN = -1;
  private static final int BAD_VALUE = -2;
  private static final int NONE = -5;
  private static final int[] FAR = {Integer.MIN_VALUE, Integer.MIN_VALUE + 1, -256, 256, Integer.MAX_VALUE - 1, Integer.MAX_VALUE};
  private static final Check check = new Check("BoundToldTest");

  public static void main(String[] args) {
    theCell();
    whatOfCell();
    theNumberOfACell();
    howManyMoreSwaps();
    theLinesThatHaveIt();
    theMagicOnesOfThese();

    theLine();
    whatOfLine();
    theSumLessTheMagicNumber();
    whetherItIsMagic();
    theStakesOnALine();
    theAmountOnALine();

    theRival();
    whatOfRival();
    thePurse();
    theSquaresWon();
    theStakesOfARival();
    theAmountOfARival();
    ifSettledNow();

    theStake();
    whatOfStakeOf();
    theFactsOfAStake();
    whetherItIsRightNow();
    whatItWouldPay();

    theOdds();
    noSuchStake();

    theCellsOfWould();
    whatOfWould();
    bothTheSame();
    theWayOffThen();
    theMagicLinesThen();
    howMuchAllStakesWouldPay();
    frozenCellsDoNotMatter();
    pursesDoNotMatter();
    onlyTold();

    notFrozen();
    theLeastWayOff();
    theLowestCell();
    theLowestOtherOne();
    hundredTimes();
    bestOfAMagicSquare();
    fewerThanTwo();

    whatOfCount();
    theCounts();
    swapsOfTheRoundAndAll();
    frozenCells();
    statesAndText();
    theTable();

    withoutStakes();
    theMean();
    theirSumAsFloats();
    inTheirOrder();
    check.end();
  }

  // ---- Promise 14

  private static void theCell() {
    check.sentence("Promise 14", "cell: a cell");
    Parlour x = check.open();
    for (int what = 0; what <= 3; what++) {
      check.due(x.cell(-1, what), UNKNOWN);
      check.due(x.cell(9, what), UNKNOWN);
      check.due(x.cell(15, what), UNKNOWN);
      for (int cell : FAR) { check.due(x.cell(cell, what), UNKNOWN); }
    }
    check.due(x.cell(8, 0), 9);
    x.read(Parlour.IN_ORDER_4);
    check.due(x.cell(15, 0), 16);
    for (int what = 0; what <= 3; what++) { check.due(x.cell(16, what), UNKNOWN); }
  }

  private static void whatOfCell() {
    check.sentence("Promise 14", "what: 0 for its number, 1 .. , 2 .. , 3 .. ");
    Parlour x = check.open();
    check.due(x.cell(0, -1), BAD_VALUE);
    check.due(x.cell(0, 0), 1);
    check.due(x.cell(0, 3), 1);
    check.due(x.cell(0, 4), BAD_VALUE);
    check.due(x.cell(8, 4), BAD_VALUE);
    for (int what : FAR) { check.due(x.cell(0, what), BAD_VALUE); }
  }

  private static void theNumberOfACell() {
    check.sentence("Promise 14", "0 for its number");
    Parlour x = check.open();
    x.read("981234567");
    check.due(x.cell(0, 0), 9);
    check.due(x.cell(2, 0), 1);
    check.due(x.cell(8, 0), 7);
    x.read(Parlour.MAGIC_4);
    check.due(x.cell(0, 0), 16);
    check.due(x.cell(15, 0), 1);
  }

  private static void howManyMoreSwaps() {
    check.sentence("Promise 14", "1 for how many more swaps it is frozen (0 if it is not)");
    Parlour x = check.open();
    check.due(x.cell(0, 1), 0);
    x.freeze(0, 6);
    for (int left = 6; left >= 1; left--) {
      check.due(x.cell(0, 1), left);
      check.due(x.cell(1, 1), 0);
      x.swap(1, 2);
    }
    check.due(x.cell(0, 1), 0);
    x.swap(1, 2);
    check.due(x.cell(0, 1), 0);
    x.freeze(8, 1);
    check.due(x.cell(8, 1), 1);
    check.due(x.cell(7, 1), 0);
  }

  private static void theLinesThatHaveIt() {
    check.sentence("Promise 14", "2 for the lines that have it (how many)");
    Parlour x = check.open();
    int[] three = {3, 2, 3, 2, 4, 2, 3, 2, 3};
    for (int cell = 0; cell < 9; cell++) { check.due(x.cell(cell, 2), three[cell]); }
    x.lay(4, 0);
    int[] four = {3, 2, 2, 3, 2, 3, 3, 2, 2, 3, 3, 2, 3, 2, 2, 3};
    for (int cell = 0; cell < 16; cell++) { check.due(x.cell(cell, 2), four[cell]); }
  }

  private static void theMagicOnesOfThese() {
    check.sentence("Promise 14", "3 for the magic ones of these");
    Parlour x = check.open();
    x.read(Parlour.MAGIC_3); // all
    int[] three = {3, 2, 3, 2, 4, 2, 3, 2, 3};
    for (int cell = 0; cell < 9; cell++) { check.due(x.cell(cell, 3), three[cell]); }
    x.read("593718642"); // none
    for (int cell = 0; cell < 9; cell++) { check.due(x.cell(cell, 3), 0); }
    x.read("537942186"); // all but the diagonal 7 4 1
    int[] some = {3, 2, 2, 2, 3, 2, 2, 2, 3};
    for (int cell = 0; cell < 9; cell++) { check.due(x.cell(cell, 3), some[cell]); }
    x.read("735249681"); // all but the diagonal 7 4 1 from the first cell
    int[] other = {2, 2, 3, 2, 3, 2, 3, 2, 2};
    for (int cell = 0; cell < 9; cell++) { check.due(x.cell(cell, 3), other[cell]); }
  }

  // ---- Promise 15

  private static void theLine() {
    check.sentence("Promise 15", "line: a line");
    Parlour x = check.open();
    for (int what = 0; what <= 4; what++) {
      check.due(x.line(-1, what), UNKNOWN);
      check.due(x.line(8, what), UNKNOWN);
      for (int line : FAR) { check.due(x.line(line, what), UNKNOWN); }
    }
    check.due(x.line(7, 0), 15);
    x.read(Parlour.IN_ORDER_4);
    check.due(x.line(8, 0), 34);
    check.due(x.line(9, 0), 34);
    for (int what = 0; what <= 4; what++) { check.due(x.line(10, what), UNKNOWN); }
  }

  private static void whatOfLine() {
    check.sentence("Promise 15", "what: 0 for its sum, 1 .. , 2 .. , 3 .. , 4 .. ");
    Parlour x = check.open();
    check.due(x.line(0, -1), BAD_VALUE);
    check.due(x.line(0, 0), 6);
    check.due(x.line(0, 4), 0);
    check.due(x.line(0, 5), BAD_VALUE);
    check.due(x.line(7, 5), BAD_VALUE);
    for (int what : FAR) { check.due(x.line(0, what), BAD_VALUE); }
  }

  private static void theSumLessTheMagicNumber() {
    check.sentence("Promise 15", "1 for its sum less the magic number, plus 100");
    Parlour x = check.open();
    check.due(x.line(0, 1), 91); // the least
    check.due(x.line(1, 1), 100);
    check.due(x.line(2, 1), 109); // the greatest
    x.read(Parlour.IN_ORDER_4);
    check.due(x.line(0, 1), 76);
    check.due(x.line(8, 1), 100);
    check.due(x.line(3, 1), 124);
  }

  private static void whetherItIsMagic() {
    check.sentence("Promise 15", "2 for whether it is magic (1, otherwise 0)");
    Parlour x = check.open();
    x.read("213456789");
    int[] magic = {0, 1, 0, 0, 0, 0, 0, 1};
    for (int line = 0; line < 8; line++) { check.due(x.line(line, 2), magic[line]); }
    x.read(Parlour.MAGIC_4);
    for (int line = 0; line < 10; line++) { check.due(x.line(line, 2), 1); }
  }

  private static void theStakesOnALine() {
    check.sentence("Promise 15", "3 for the stakes on it (how many)");
    Parlour x = check.open();
    for (int line = 0; line < 8; line++) { check.due(x.line(line, 3), 0); }
    for (int i = 1; i <= 9; i++) {
      x.stake(7, i % 3, 1);
      x.pass();
      check.due(x.line(7, 3), i); // of all rivals, of all kinds
    }
    x.stake(0, 0, 1);
    check.due(x.line(0, 3), 1);
    check.due(x.line(7, 3), 9);
    check.due(x.line(1, 3), 0);
    x.lay(4, 0);
    check.due(x.line(7, 3), 0);
    for (int i = 1; i <= 10; i++) { x.stake(9, 0, 1); }
    check.due(x.line(9, 3), 10);
    x.undo();
    check.due(x.line(9, 3), 9);
  }

  private static void theAmountOnALine() {
    check.sentence("Promise 15", "4 for the amount of these together");
    Parlour x = check.open();
    for (int line = 0; line < 8; line++) { check.due(x.line(line, 4), 0); }
    for (int rival = 0; rival < 3; rival++) {
      x.stake(7, 0, 99);
      x.pass();
    }
    x.stake(0, 0, 1);
    check.due(x.line(7, 4), 297);
    check.due(x.line(0, 4), 1);
    check.due(x.line(1, 4), 0);
    x.lay(4, 0);
    check.due(x.line(7, 4), 0);
  }

  // ---- Promise 16

  private static void theRival() {
    check.sentence("Promise 16", "rival: 0 to 2");
    Parlour x = check.open();
    for (int what = 0; what <= 4; what++) {
      check.due(x.rival(-1, what), UNKNOWN);
      check.due(x.rival(3, what), UNKNOWN);
      for (int rival : FAR) { check.due(x.rival(rival, what), UNKNOWN); }
    }
    check.due(x.rival(0, 0), 100);
    check.due(x.rival(2, 0), 100);
  }

  private static void whatOfRival() {
    check.sentence("Promise 16", "what: 0 for the purse, 1 .. , 2 .. , 3 .. , 4 .. ");
    Parlour x = check.open();
    check.due(x.rival(0, -1), BAD_VALUE);
    check.due(x.rival(0, 0), 100);
    check.due(x.rival(0, 4), 0);
    check.due(x.rival(0, 5), BAD_VALUE);
    check.due(x.rival(2, 5), BAD_VALUE);
    for (int what : FAR) { check.due(x.rival(0, what), BAD_VALUE); }
  }

  private static void thePurse() {
    check.sentence("Promise 16", "0 for the purse");
    Parlour x = check.open();
    x.stake(0, 0, 99);
    x.pass();
    x.stake(0, 0, 1);
    check.due(x.rival(0, 0), 1);
    check.due(x.rival(1, 0), 99);
    check.due(x.rival(2, 0), 100);
  }

  private static void theSquaresWon() {
    check.sentence("Promise 16", "1 for the squares won");
    Parlour x = check.open();
    x.read(Parlour.MAGIC_3);
    for (int rival = 0; rival < 3; rival++) { check.due(x.rival(rival, 1), 0); }
    x.swap(0, 1);
    x.swap(0, 1);
    check.due(x.rival(0, 1), 0);
    check.due(x.rival(1, 1), 1);
    check.due(x.rival(2, 1), 0);
    x.undo();
    check.due(x.rival(1, 1), 0);
  }

  private static void theStakesOfARival() {
    check.sentence("Promise 16", "2 for the stakes of the rival (how many)");
    Parlour x = check.open();
    x.pass();
    for (int i = 1; i <= 9; i++) { x.stake(i % 8, i % 3, 1); }
    x.pass();
    x.stake(0, 0, 1);
    check.due(x.rival(0, 2), 0);
    check.due(x.rival(1, 2), 9);
    check.due(x.rival(2, 2), 1);
    x.undo();
    check.due(x.rival(2, 2), 0);
  }

  private static void theAmountOfARival() {
    check.sentence("Promise 16", "3 for the amount of these together");
    Parlour x = check.open();
    x.pass();
    x.stake(0, 0, 99);
    x.stake(1, 1, 1);
    x.pass();
    x.stake(0, 0, 7);
    check.due(x.rival(0, 3), 0);
    check.due(x.rival(1, 3), 100);
    check.due(x.rival(2, 3), 7);
  }

  private static void ifSettledNow() {
    check.sentence("Promise 16", "4 for what the rival would get if stakes were settled now");
    Parlour x = check.open();
    x.stake(0, 0, 10); // wrong
    x.stake(1, 0, 20); // right: 20
    x.stake(1, 1, 30); // neither greater nor less
    x.stake(1, 2, 30);
    x.pass();
    x.stake(6, 0, 3);
    check.due(x.rival(0, 4), 20);
    check.due(x.rival(1, 4), 3);
    check.due(x.rival(2, 4), 0);
    x.undo();
    check.due(x.rival(1, 4), 0);
    Parlour down = check.open(); // each is rounded down for itself, behind one swap of three
    down.stake(0, 1, 1); // 1.5f
    down.stake(0, 1, 1);
    down.stake(0, 1, 3);
    check.due(down.rival(0, 4), 0);
    down.swap(0, 8);
    check.due(down.rival(0, 4), 1 + 1 + 4);
    check.due(down.rival(0, 0), 94); // nothing is settled by it
  }

  // ---- Promise 17

  private static void theStake() {
    check.sentence("Promise 17", "stake: a stake, from 0");
    Parlour x = check.open();
    check.due(x.stakeOf(0, 0), UNKNOWN);
    x.stake(0, 0, 1);
    check.due(x.stakeOf(-1, 0), UNKNOWN);
    check.due(x.stakeOf(0, 0), 0);
    check.due(x.stakeOf(1, 0), UNKNOWN);
    for (int i = 1; i < 10; i++) { x.stake(0, 0, 1); }
    check.due(x.stakeOf(9, 3), 1);
    for (int what = 0; what <= 6; what++) {
      check.due(x.stakeOf(-1, what), UNKNOWN);
      check.due(x.stakeOf(10, what), UNKNOWN);
      for (int stake : FAR) { check.due(x.stakeOf(stake, what), UNKNOWN); }
    }
    x.undo();
    check.due(x.stakeOf(8, 3), 1);
    check.due(x.stakeOf(9, 3), UNKNOWN);
  }

  private static void whatOfStakeOf() {
    check.sentence("Promise 17", "what: 0 for the rival, 1 .. , 2 .. , 3 .. , 4 .. , 5 .. , 6 .. ");
    Parlour x = check.open();
    x.stake(0, 0, 10);
    check.due(x.stakeOf(0, -1), BAD_VALUE);
    check.due(x.stakeOf(0, 0), 0);
    check.due(x.stakeOf(0, 6), 32);
    check.due(x.stakeOf(0, 7), BAD_VALUE);
    for (int what : FAR) { check.due(x.stakeOf(0, what), BAD_VALUE); }
  }

  private static void theFactsOfAStake() {
    check.sentence("Promise 17", "0 for the rival, 1 for the line, 2 for the kind, 3 for the amount, 4 for the sum that was kept");
    Parlour x = check.open();
    x.pass();
    x.stake(7, 2, 99);
    x.pass();
    x.stake(0, 1, 1);
    x.swap(0, 1);
    int[][] due = {{1, 7, 2, 99, 15}, {2, 0, 1, 1, 6}};
    for (int stake = 0; stake < 2; stake++) {
      for (int what = 0; what <= 4; what++) { check.due(x.stakeOf(stake, what), due[stake][what]); }
    }
    Parlour four = check.open();
    four.read(Parlour.IN_ORDER_4);
    four.stake(3, 2, 2);
    four.stake(9, 0, 2);
    check.due(four.stakeOf(0, 4), 58);
    check.due(four.stakeOf(1, 1), 9);
    check.due(four.stakeOf(1, 4), 34);
  }

  private static void whetherItIsRightNow() {
    check.sentence("Promise 17", "5 for whether it is right now (1, otherwise 0)");
    Parlour x = check.open();
    x.stake(4, 0, 1);
    x.stake(4, 1, 1);
    x.stake(4, 2, 1);
    areRight(x, 1, 0, 0); // 15, as it was
    x.swap(0, 1);
    areRight(x, 0, 0, 1); // 14
    x.swap(0, 1);
    areRight(x, 1, 0, 0); // 15 again
    x.undo();
    x.undo();
    x.swap(1, 2);
    areRight(x, 0, 1, 0); // 16
  }

  private static void areRight(Parlour x, int... right) {
    for (int stake = 0; stake < right.length; stake++) { check.due(x.stakeOf(stake, 5), right[stake]); }
  }

  private static void whatItWouldPay() {
    check.sentence("Promise 17", "6 for what it would pay if it is right");
    Parlour x = check.open();
    x.stake(0, 0, 10); // wrong now: 3.25f
    x.stake(1, 0, 20); // right now: 1.0f
    x.stake(0, 2, 3); // 1.5f, rounded down
    check.due(x.stakeOf(0, 6), 32);
    check.due(x.stakeOf(1, 6), 20);
    check.due(x.stakeOf(2, 6), 4);
    x.swap(0, 8); // by the odds that were kept
    check.due(x.stakeOf(0, 6), 32);
    Parlour most = check.open();
    most.read(Parlour.IN_ORDER_4);
    most.stake(0, 0, 99);
    most.stake(8, 0, 1);
    check.due(most.stakeOf(0, 6), 693);
    check.due(most.stakeOf(1, 6), 1);
  }

  // ---- Promise 18

  private static void theOdds() {
    check.sentence("Promise 18", "Returns its odds");
    Parlour x = check.open();
    x.stake(0, 0, 1);
    x.stake(1, 0, 1);
    x.stake(1, 1, 1);
    for (int i = 3; i < 9; i++) { x.stake(3, 0, 1); }
    x.stake(2, 0, 1);
    check.due(x.odds(0), 3.25f);
    check.due(x.odds(1), 1.0f);
    check.due(x.odds(2), 1.5f);
    check.due(x.odds(8), 1.75f);
    check.due(x.odds(9), 3.25f);
  }

  private static void noSuchStake() {
    check.sentence("Promise 18", "-1.0f if there is no such stake");
    Parlour x = check.open();
    check.due(x.odds(0), -1.0f);
    x.stake(0, 0, 1);
    check.due(x.odds(0), 3.25f);
    check.due(x.odds(-1), -1.0f);
    check.due(x.odds(1), -1.0f);
    for (int stake : FAR) { check.due(x.odds(stake), -1.0f); }
    for (int i = 1; i < 10; i++) { x.stake(0, 0, 1); }
    check.due(x.odds(9), 3.25f);
    check.due(x.odds(10), -1.0f);
    x.undo();
    check.due(x.odds(9), -1.0f);
    x.lay(3, 0);
    check.due(x.odds(0), -1.0f);
  }

  // ---- Promise 19

  private static void theCellsOfWould() {
    check.sentence("Promise 19", "UNKNOWN (one or other)");
    Parlour x = check.open();
    for (int what = 0; what <= 2; what++) {
      check.due(x.would(-1, 0, what), UNKNOWN);
      check.due(x.would(0, -1, what), UNKNOWN);
      check.due(x.would(9, 0, what), UNKNOWN);
      check.due(x.would(0, 9, what), UNKNOWN);
      for (int cell : FAR) {
        check.due(x.would(cell, 0, what), UNKNOWN);
        check.due(x.would(0, cell, what), UNKNOWN);
      }
    }
    check.due(x.would(0, 8, 0), 12);
    check.due(x.would(8, 0, 0), 12);
    x.read(Parlour.MAGIC_4);
    check.due(x.would(0, 15, 1), 6);
    check.due(x.would(16, 0, 1), UNKNOWN);
    check.due(x.would(0, 16, 1), UNKNOWN);
  }

  private static void whatOfWould() {
    check.sentence("Promise 19", "BAD_VALUE (what");
    Parlour x = check.open();
    check.due(x.would(0, 8, -1), BAD_VALUE);
    check.due(x.would(0, 8, 0), 12);
    check.due(x.would(0, 8, 1), 4);
    check.due(x.would(0, 8, 2), 0);
    check.due(x.would(0, 8, 3), BAD_VALUE);
    for (int what : FAR) { check.due(x.would(0, 8, what), BAD_VALUE); }
  }

  private static void bothTheSame() {
    check.sentence("Promise 19", "or both are the same)");
    Parlour x = check.open();
    for (int cell = 0; cell < 9; cell++) {
      for (int what = 0; what <= 2; what++) { check.due(x.would(cell, cell, what), BAD_VALUE); }
    }
    x.lay(4, 0);
    for (int cell = 0; cell < 16; cell++) { check.due(x.would(cell, cell, 0), BAD_VALUE); }
  }

  private static void theWayOffThen() {
    check.sentence("Promise 19", "0 for the way off then");
    Parlour x = check.open();
    check.due(x.would(0, 1, 0), 25); // 6 15 24, 13 14 18, 16 15
    x.read("942357816");
    check.due(x.would(0, 1, 0), 0); // a magic square
    check.due(x.would(1, 0, 0), 0);
    x.read(Parlour.MAGIC_3);
    check.due(x.would(0, 1, 0), 15); // 0 0 0, 5 5 0, 5 0
    for (int side = 3; side <= 4; side++) { toldAsMade(side, 0); }
  }

  private static void theMagicLinesThen() {
    check.sentence("Promise 19", "1 for how many lines are magic then");
    Parlour x = check.open();
    check.due(x.would(0, 1, 1), 2);
    x.read("942357816");
    check.due(x.would(0, 1, 1), 8); // all
    x.read("593718642");
    x.swap(7, 8);
    check.due(x.would(7, 8, 1), 0); // none
    for (int side = 3; side <= 4; side++) { toldAsMade(side, 1); }
  }

  /** What would() tells is what count() tells behind the swap. */
  private static void toldAsMade(int side, int what) {
    int cells = side * side;
    for (int one = 0; one < cells; one++) {
      for (int other = 0; other < cells; other++) {
        if (one == other) { continue; }
        Parlour x = check.open();
        x.lay(side, 12);
        int told = x.would(one, other, what);
        x.swap(one, other);
        check.due(told, x.count(2 + what));
      }
    }
  }

  private static void howMuchAllStakesWouldPay() {
    check.sentence("Promise 19", "2 for how much all stakes would pay if they were settled then");
    Parlour x = check.open();
    check.due(x.would(0, 8, 2), 0); // without stakes
    x.stake(0, 1, 1); // 1.5f
    x.stake(0, 1, 3);
    x.pass();
    x.stake(2, 2, 99);
    x.pass();
    x.stake(1, 0, 20);
    check.due(x.would(0, 8, 2), 1 + 4 + 148 + 20); // those of all rivals, each rounded down
    check.due(x.would(0, 1, 2), 20); // 6 is neither greater nor less
    check.due(x.would(3, 6, 2), 148);
    check.due(x.would(0, 3, 2), 1 + 4);
    check.due(x.count(7), 0); // though the round has no end by it
  }

  private static void frozenCellsDoNotMatter() {
    check.sentence("Promise 19", "(whether cells are frozen ... do not matter)");
    Parlour x = check.open();
    x.set(2, 0);
    for (int cell = 0; cell < 9; cell++) { x.freeze(cell, 6); }
    check.due(x.would(0, 8, 0), 12);
    check.due(x.would(0, 8, 1), 4);
    x.stake(0, 1, 10);
    check.due(x.would(0, 8, 2), 15);
  }

  private static void pursesDoNotMatter() {
    check.sentence("Promise 19", "(... and purses, do not matter)");
    Parlour x = check.open();
    x.stake(0, 1, 99);
    x.stake(0, 1, 1);
    x.set(1, 9);
    check.due(x.rival(0, 0), 0);
    check.due(x.would(0, 8, 0), 12);
    check.due(x.would(0, 8, 1), 4);
    check.due(x.would(0, 8, 2), 149);
  }

  private static void onlyTold() {
    check.sentence("Promise 19", "Tells what a swap would bring.");
    Parlour x = check.open();
    x.read("942357816");
    x.set(0, 1);
    x.freeze(8, 1);
    x.stake(0, 0, 5);
    String before = x.state();
    for (int what = 0; what <= 2; what++) { x.would(0, 1, what); }
    check.due("the state", x.state(), before);
    check.due(x.count(13), 4);
  }

  // ---- Promise 20

  private static void notFrozen() {
    check.sentence("Promise 20", "Tells the best swap of two cells that are not frozen");
    Parlour x = check.open();
    x.read("942357816");
    x.set(2, 0);
    check.due(x.best(), 1); // back to the magic square
    x.freeze(0, 1);
    check.due(x.best(), leastOf(x));
    check.due("a swap of a frozen cell", x.best() == 1 ? 1 : 0, 0);
    x.freeze(8, 2);
    check.due(x.best(), leastOf(x));
    x.swap(2, 3);
    x.swap(2, 3);
    check.due(x.best(), 1); // both are free again
    for (int cell = 2; cell < 8; cell++) { x.freeze(cell, 6); }
    check.due(x.best(), 1);
    x.freeze(1, 6);
    check.due(x.best(), 8); // all but the first and the last
  }

  /** The same from what would() tells. */
  private static int leastOf(Parlour x) {
    int cells = x.count(0) * x.count(0);
    int found = NONE;
    int least = Integer.MAX_VALUE;
    for (int one = 0; one < cells; one++) {
      if (x.cell(one, 1) > 0) { continue; }
      for (int other = one + 1; other < cells; other++) {
        int off = x.would(one, other, 0);
        if (x.cell(other, 1) == 0 && off < least) {
          least = off;
          found = 100 * one + other;
        }
      }
    }
    return found;
  }

  private static void theLeastWayOff() {
    check.sentence("Promise 20", "with the least way off then");
    check.due(check.open().best(), 8);
    for (int seed = 0; seed < 60; seed++) {
      for (int side = 3; side <= 4; side++) {
        Parlour x = check.open();
        x.lay(side, seed);
        int best = x.best();
        check.due(best, leastOf(x));
      }
    }
  }

  private static void theLowestCell() {
    check.sentence("Promise 20", "of several the one with the lowest cell");
    // by seeds: which swaps have the same least way off
    bestOf(3, 44, 208); // 2 8, 5 7
    bestOf(3, 76, 308); // 3 8, 4 6
    bestOf(3, 155, 8); // 0 8, 2 4, 4 8
    bestOf(4, 3, 315); // 3 15, 8 10
    bestOf(4, 91, 515); // 5 15, 9 11
    bestOf(4, 212, 215); // 2 15, 6 13
  }

  private static void theLowestOtherOne() {
    check.sentence("Promise 20", "then the lowest other one");
    bestOf(3, 50, 206); // 2 6, 2 7
    bestOf(3, 57, 105); // 1 5, 1 8, 3 5
    bestOf(3, 2237, 105); // 1 5, 1 6, 1 8, 3 4
    bestOf(4, 16, 211); // 2 11, 2 13
    bestOf(4, 62, 207); // 2 7, 2 8
    bestOf(4, 4374, 10); // 0 10, 0 11, 4 7
  }

  private static void bestOf(int side, int seed, int best) {
    Parlour x = check.open();
    x.lay(side, seed);
    check.due(x.best(), best);
    check.due(x.best(), leastOf(x));
  }

  private static void hundredTimes() {
    check.sentence("Promise 20", "Returns 100 times the lower cell plus the other one");
    Parlour x = check.open();
    x.read("942357816");
    check.due(x.best(), 1); // 0 and 1
    x.read("492357861");
    check.due(x.best(), 708);
    x.read(Parlour.MAGIC_4);
    x.swap(14, 15);
    check.due(x.best(), 1415);
    x.read(Parlour.MAGIC_4);
    x.swap(15, 0);
    check.due(x.best(), 15);
  }

  private static void bestOfAMagicSquare() {
    check.sentence("Promise 20", "the best swap of two cells");
    Parlour x = check.open();
    x.read(Parlour.MAGIC_3); // a swap is told even where each makes it worse
    check.due(x.best(), leastOf(x));
    check.due("what it brings", x.would(x.best() / 100, x.best() % 100, 0) > 0 ? 1 : 0, 1);
    Parlour poor = check.open(); // and where nobody can pay for it
    poor.stake(0, 0, 99);
    poor.stake(0, 0, 1);
    check.due(poor.best(), 8);
  }

  private static void fewerThanTwo() {
    check.sentence("Promise 20", "NONE if fewer than two cells are not frozen");
    for (int side = 3; side <= 4; side++) {
      int cells = side * side;
      for (int one = 0; one < cells; one++) {
        Parlour x = check.open();
        x.lay(side, 0);
        x.set(2, 0);
        int other = (one + cells / 2) % cells;
        for (int cell = 0; cell < cells; cell++) {
          if (cell != one && cell != other) { x.freeze(cell, 6); }
        }
        check.due(x.best(), 100 * Math.min(one, other) + Math.max(one, other)); // two are free
        x.freeze(other, 6);
        check.due(x.best(), NONE); // one
        x.freeze(one, 6);
        check.due(x.best(), NONE); // none
      }
    }
  }

  // ---- Promise 21

  private static void whatOfCount() {
    check.sentence("Promise 21", "Returns the number; BAD_VALUE.");
    Parlour x = check.open();
    check.due(x.count(-1), BAD_VALUE);
    check.due(x.count(0), 3);
    check.due(x.count(15), 0);
    check.due(x.count(16), BAD_VALUE);
    for (int what : FAR) { check.due(x.count(what), BAD_VALUE); }
  }

  private static void theCounts() {
    check.sentence("Promise 21", "0 for the side, 1 for the magic number, 2 for the way off, 3 for magic lines, 4 for the rival at "
        + "turn, 5 for the pot, 6 for stakes .. 10 to 12 for the settings");
    Parlour x = check.open();
    x.read(Parlour.MAGIC_4);
    x.set(0, 9);
    x.set(1, 3);
    x.set(2, 4);
    x.swap(0, 3); // 6 lines are magic; 3 in the pot
    x.freeze(5, 2); // 8 more
    x.stake(0, 0, 11);
    x.stake(9, 1, 12);
    x.type("abc");
    int[] due = {4, 34, 12, 6, 2, 11, 2, 1, 1, 1, 9, 3, 4, 4, 3, 23};
    for (int what = 0; what <= 15; what++) { check.due(x.count(what), due[what]); }
  }

  private static void swapsOfTheRoundAndAll() {
    check.sentence("Promise 21", "7 for swaps that are made in the round, 8 for all swaps so far");
    Parlour x = check.open();
    for (int i = 1; i <= 10; i++) {
      x.swap(0, 1);
      check.due(x.count(7), i % 3);
      check.due(x.count(8), i);
    }
    x.freeze(8, 1);
    x.pass();
    x.swap(0, 0);
    check.due(x.count(7), 1);
    check.due(x.count(8), 10);
    x.lay(3, 0);
    check.due(x.count(7), 0);
    check.due(x.count(8), 10);
    Parlour nine = check.open();
    nine.set(0, 9);
    for (int i = 1; i <= 18; i++) {
      nine.swap(0, 1);
      check.due(nine.count(7), i % 9);
    }
    nine.undo(); // an undone swap is none of them
    check.due(nine.count(7), 8);
    check.due(nine.count(8), 17);
  }

  private static void frozenCells() {
    check.sentence("Promise 21", "9 for frozen cells");
    Parlour x = check.open();
    check.due(x.count(9), 0);
    x.set(2, 0);
    for (int cell = 0; cell < 9; cell++) {
      x.freeze(cell, 6);
      check.due(x.count(9), cell + 1);
    }
    Parlour thaw = check.open();
    thaw.freeze(0, 1);
    thaw.freeze(1, 2);
    thaw.swap(3, 4);
    check.due(thaw.count(9), 1);
    thaw.swap(3, 4);
    check.due(thaw.count(9), 0);
  }

  private static void statesAndText() {
    check.sentence("Promise 21", "13 for the states in the history, 14 for the length of the text");
    Parlour x = check.open();
    check.due(x.count(13), 0);
    check.due(x.count(14), 0);
    for (int i = 1; i <= 6; i++) {
      x.pass();
      check.due(x.count(13), Math.min(i, 4));
    }
    for (int i = 1; i <= 61; i++) {
      x.type('a');
      check.due(x.count(14), Math.min(i, 60));
    }
    x.undo();
    check.due(x.count(13), 3);
    x.clearText();
    check.due(x.count(14), 0);
  }

  private static void theTable() {
    check.sentence("Promise 21", "15 for all that is on the table (the amounts of the stakes)");
    Parlour x = check.open();
    check.due(x.count(15), 0);
    for (int rival = 0; rival < 3; rival++) {
      x.stake(rival, rival, 99);
      x.stake(rival, rival, 1);
      x.pass();
      check.due(x.count(15), 100 * (rival + 1));
    }
    x.undo();
    x.undo();
    check.due(x.count(15), 299);
    x.read(Parlour.MAGIC_3);
    check.due(x.count(15), 0);
  }

  // ---- Promise 22

  private static void withoutStakes() {
    check.sentence("Promise 22", "0 without stakes");
    Parlour x = check.open();
    check.due(x.meanOddsBits(), 0);
    x.stake(1, 0, 1);
    check.due(x.meanOddsBits(), Float.floatToIntBits(1.0f));
    x.undo();
    check.due(x.meanOddsBits(), 0);
    x.stake(1, 0, 1);
    x.set(0, 1);
    x.swap(0, 1);
    check.due(x.meanOddsBits(), 0);
  }

  private static void theMean() {
    check.sentence("Promise 22", "divided by (float) of how many they are, as bits (Float.floatToIntBits)");
    Parlour x = check.open();
    x.stake(1, 0, 1); // 1.0f
    check.due(x.meanOddsBits(), 0x3f800000);
    x.stake(0, 0, 1); // 3.25f
    check.due(x.meanOddsBits(), 0x40080000); // 2.125f
    x.stake(0, 0, 1);
    check.due(x.meanOddsBits(), 0x40200000); // 2.5f
    for (int i = 3; i < 10; i++) { x.stake(1, 0, 1); }
    check.due(x.meanOddsBits(), Float.floatToIntBits(14.5f / 10.0f));
    Parlour most = check.open();
    most.read(Parlour.IN_ORDER_4);
    for (int i = 0; i < 10; i++) {
      most.stake(0, 0, 1);
      check.due(most.meanOddsBits(), 0x40e00000); // 7.0f, the greatest
    }
    Parlour least = check.open();
    for (int i = 0; i < 10; i++) {
      least.stake(1, 0, 1);
      check.due(least.meanOddsBits(), 0x3f800000); // 1.0f, the least
    }
    Parlour two = check.open(); // where the power of two changes
    two.read(Parlour.MAGIC_3);
    two.stake(0, 1, 1);
    check.due(two.meanOddsBits(), 0x40000000); // 2.0f
    Parlour four = check.open();
    four.read("mnbocdefpghijkla"); // 13 14 2 15: 44, 10 off: 3.5f; the column 13 3 16 10 is 42, 8 off: 3.0f
    four.stake(0, 0, 1);
    check.due(four.odds(0), 3.5f);
    check.due(four.meanOddsBits(), 0x40600000);
  }

  private static void theirSumAsFloats() {
    check.sentence("Promise 22", "their sum as floats");
    Parlour x = check.open();
    x.read(Parlour.MAGIC_4);
    x.set(0, 9);
    x.stake(0, 1, 1); // ten of ten: 2.0f
    x.swap(0, 3);
    x.stake(0, 1, 1); // six: 1.6f
    x.swap(7, 4);
    x.stake(0, 1, 1); // eight: 1.8f
    check.due(x.odds(0), 2.0f);
    check.due(x.odds(1), 1.6f);
    check.due(x.odds(2), 1.8f);
    check.due(x.meanOddsBits(), 1072064101); // a sum of doubles would answer 1072064102
    for (int seed = 0; seed < 60; seed++) { asFloats(seed); }
  }

  private static void asFloats(int seed) {
    Parlour x = check.open();
    x.read(Parlour.MAGIC_4);
    x.set(0, 9);
    x.set(1, 0);
    float sum = 0.0f;
    int rolling = seed;
    for (int i = 1; i <= 10; i++) {
      rolling = (421 * rolling + 1663) % 10000;
      x.stake(rolling % 10, i % 3, 1);
      sum = sum + x.odds(i - 1);
      check.due(x.meanOddsBits(), Float.floatToIntBits(sum / (float) i));
      if (i % 2 == 0 && i <= 8) { x.swap(rolling % 16, (rolling + 1 + rolling % 15) % 16); }
    }
  }

  private static void inTheirOrder() {
    check.sentence("Promise 22", "in their order, beginning with 0.0f");
    Parlour x = check.open();
    x.read(Parlour.MAGIC_4);
    x.set(0, 9);
    x.stake(0, 1, 1); // 2.0f
    x.swap(12, 10);
    x.stake(0, 2, 1); // four: 1.4f
    x.swap(5, 10);
    x.stake(0, 1, 1); // two: 1.2f
    check.due(x.odds(1), 1.4f);
    check.due(x.odds(2), 1.2f);
    check.due(x.meanOddsBits(), 1069827141); // from the last to the first it would be 1069827140
    Parlour y = check.open();
    y.read(Parlour.MAGIC_4);
    y.set(0, 9);
    y.swap(12, 10);
    y.swap(5, 10);
    y.stake(0, 1, 1); // 1.2f
    y.swap(5, 10);
    y.stake(0, 2, 1); // 1.4f
    y.swap(12, 10);
    y.stake(0, 1, 1); // 2.0f
    check.due(y.odds(0), 1.2f);
    check.due(y.odds(2), 2.0f);
    check.due(y.meanOddsBits(), 1069827140); // the same odds in another order
  }
}
