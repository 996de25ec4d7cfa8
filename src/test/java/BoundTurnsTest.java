/**
 * The boundary cases of the sentences on rivals and turns (Terms) and of the promises 4, 5, 7, 8; a function for each
 * sentence.
 */
public final class BoundTurnsTest {
  private static final int UNKNOWN = -1;
  private static final int BAD_VALUE = -2;
  private static final int FULL = -3;
  private static final int NOT_POSSIBLE = -4;
  private static final int NONE = -5;
  private static final int[] FAR = {Integer.MIN_VALUE, Integer.MIN_VALUE + 1, -256, 256, Integer.MAX_VALUE - 1, Integer.MAX_VALUE};
  private static final Check check = new Check("BoundTurnsTest");

  public static void main(String[] args) {
    threeRivals();
    thePurseAtFirst();
    thePurseGoesToNothing();
    theFullestPurse();
    squaresWon();
    theFirstTurn();
    turnsComeRound();
    whatPassesNoTurn();
    theFirstSettings();
    theRangesOfSettings();

    toSwap();
    frozenCellsAreNotSwapped();
    thePriceOfASwap();
    toFreeze();
    frozenCellsAreNotFrozen();
    thePriceOfAFreeze();
    untilSoManySwaps();
    whatThawsNothing();

    theCellsOfSwap();
    theSameCell();
    eitherIsFrozen();
    asMuchAsThePrice();
    theAnswerOfSwap();
    swapIsAnAct();

    theCellOfFreeze();
    theSwapsOfFreeze();
    asMuchAsTheFreeze();
    theAnswerOfFreeze();
    freezeIsAnAct();

    thePass();
    passIsAnAct();

    theWhichOfSet();
    theAnswerOfSet();
    itIsSoAlready();
    setIsAnAct();
    check.end();
  }

  // ---- Terms, rivals and turns

  private static void threeRivals() {
    check.sentence("Rivals and turns", "There are three rivals, numbered from 0");
    Parlour x = check.open();
    check.due(x.rival(-1, 0), UNKNOWN);
    check.due(x.rival(0, 0), 100);
    check.due(x.rival(1, 0), 100);
    check.due(x.rival(2, 0), 100);
    check.due(x.rival(3, 0), UNKNOWN);
    for (int rival : FAR) { check.due(x.rival(rival, 0), UNKNOWN); }
  }

  private static void thePurseAtFirst() {
    check.sentence("Rivals and turns", "each with a purse (100 at first");
    for (int rival = 0; rival < 3; rival++) {
      Parlour x = check.open();
      x.passTo(rival);
      check.due(x.rival(rival, 0), 100);
      x.stake(0, 0, 99);
      check.due(x.stake(0, 0, 2), FULL);
      check.due(x.stake(0, 0, 1), 2);
      check.due(x.rival(rival, 0), 0);
    }
  }

  private static void thePurseGoesToNothing() {
    check.sentence("Rivals and turns", "0 to 999999");
    for (int rival = 0; rival < 3; rival++) {
      byStakes(rival);
      bySwaps(rival);
      byFreezes(rival);
    }
  }

  private static void byStakes(int rival) {
    Parlour x = check.open();
    x.passTo(rival);
    x.stake(0, 0, 50);
    check.due(x.stake(0, 0, 51), FULL);
    check.due(x.stake(0, 0, 50), 2);
    check.due(x.rival(rival, 0), 0);
    check.due(x.stake(0, 0, 1), FULL);
    check.due(x.swap(0, 1), FULL);
    check.due(x.freeze(0, 1), FULL);
    check.due(x.rival(rival, 0), 0);
  }

  private static void bySwaps(int rival) {
    Parlour x = check.open();
    x.set(1, 9);
    x.passTo(rival);
    x.stake(0, 0, 91);
    check.due(x.swap(0, 1), 2);
    check.due(x.rival(rival, 0), 0);
    x.passTo(rival);
    check.due(x.swap(0, 1), FULL);
    check.due(x.rival(rival, 0), 0);
  }

  private static void byFreezes(int rival) {
    Parlour x = check.open();
    x.passTo(rival);
    x.stake(0, 0, 98);
    check.due(x.freeze(0, 1), 1);
    check.due(x.rival(rival, 0), 0);
    x.passTo(rival);
    check.due(x.freeze(1, 1), FULL);
    check.due(x.rival(rival, 0), 0);
  }

  /**
   * That what comes above 999999 is lost can be seen in no run of 512 calls: what comes into the game beyond the 300 of
   * the beginning is paid for stakes, and each stake is a call. The highest odds are 7.0f (a line of 10 or 58, whose
   * magic number is 34), so a stake of 99 brings 693 - 99 = 594 at most, and 300 + 512 * 594 = 304428. The run below is
   * the richest one that is known: nothing of it may be lost.
   */
  private static void theFullestPurse() {
    check.sentence("Rivals and turns", "whatever would come above that is lost");
    Parlour x = check.open();
    x.set(0, 2);
    x.set(1, 0);
    x.type("mnopabcdefghijkl");
    int purse = 100;
    for (int round = 0; round < 36; round++) {
      if (round > 0) { x.pass(); } // two swaps and this one bring the turn back to the rival 0
      x.read();
      int stakes = Math.min(10, purse / 99);
      for (int i = 0; i < stakes; i++) { x.stake(0, 0, 99); }
      x.swap(3, 4); // 13 14 15 16 becomes 13 14 15 1
      x.swap(2, 9); // and 13 14 6 1, which is 34
      purse += stakes * (693 - 99);
    }
    check.due(x.rival(0, 0), purse);
    check.due("the fullest purse", purse, 100 + 594 + 7 * 594 + 34 * 5940);
    check.due(x.count(5), 0);
  }

  private static void squaresWon() {
    check.sentence("Rivals and turns", "and a number of squares that they won");
    Parlour x = check.open();
    for (int rival = 0; rival < 3; rival++) { check.due(x.rival(rival, 1), 0); }
    x.set(1, 0);
    x.read(Parlour.MAGIC_3);
    // each second swap wins: those of 1, 0, 2, 1, 0, 2 ..
    for (int i = 0; i < 450; i++) { x.swap(0, 1); }
    for (int rival = 0; rival < 3; rival++) { check.due(x.rival(rival, 1), 75); }
  }

  private static void theFirstTurn() {
    check.sentence("Rivals and turns", "The rival 0 is at turn at first");
    Parlour x = check.open();
    check.due(x.count(4), 0);
    x.stake(0, 0, 1);
    check.due(x.stakeOf(0, 0), 0);
    check.due(x.rival(0, 0), 99);
  }

  private static void turnsComeRound() {
    check.sentence("Rivals and turns", "swaps and freezes pass the turn to the next one (behind 2 comes 0)");
    Parlour swapped = check.open();
    Parlour frozen = check.open();
    frozen.set(2, 0);
    for (int i = 0; i < 9; i++) {
      swapped.swap(0, 1);
      check.due(swapped.count(4), (i + 1) % 3);
      frozen.freeze(i, 6);
      check.due(frozen.count(4), (i + 1) % 3);
    }
    Parlour settled = check.open(); // a swap that settles passes it, too
    settled.set(0, 1);
    for (int i = 0; i < 4; i++) {
      settled.swap(0, 1);
      check.due(settled.count(4), (i + 1) % 3);
    }
    Parlour won = check.open(); // and one that wins
    won.read(Parlour.MAGIC_3);
    for (int i = 0; i < 6; i++) {
      won.swap(0, 1);
      check.due(won.count(4), (i + 1) % 3);
    }
  }

  private static void whatPassesNoTurn() {
    check.sentence("Rivals and turns", "swaps and freezes pass the turn");
    for (int rival = 0; rival < 3; rival++) {
      Parlour x = check.open();
      x.passTo(rival);
      x.stake(0, 0, 1);
      x.set(0, 9);
      x.lay(4, 0);
      x.read(Parlour.MAGIC_3);
      x.keep();
      x.restore();
      x.would(0, 1, 0);
      x.best();
      x.swap(0, 0);
      x.swap(0, 9);
      x.freeze(0, 7);
      x.freeze(9, 1);
      x.set(0, 9);
      check.due(x.count(4), rival);
    }
  }

  private static void theFirstSettings() {
    check.sentence("Rivals and turns", "The settings are (in parentheses: range; first value)");
    Parlour x = check.open();
    check.due(x.count(10), 3);
    check.due(x.count(11), 1);
    check.due(x.count(12), 2);
    check.due(x.set(0, 4), 3);
    check.due(x.set(1, 4), 1);
    check.due(x.set(2, 4), 2);
  }

  private static void theRangesOfSettings() {
    check.sentence("Rivals and turns", "0 the swaps of a round (1 to 9; 3), 1 the price of a swap (0 to 9; 1), "
        + "2 the price of a freeze for each swap that it lasts (0 to 9; 2)");
    int[] least = {1, 0, 0};
    for (int which = 0; which < 3; which++) {
      Parlour x = check.open();
      check.due(x.set(which, least[which] - 1), BAD_VALUE);
      check.due(x.set(which, 10), BAD_VALUE);
      check.due(x.set(which, least[which]), new int[] {3, 1, 2}[which]);
      check.due(x.count(10 + which), least[which]);
      check.due(x.set(which, 9), least[which]);
      check.due(x.count(10 + which), 9);
      check.due(x.set(which, least[which] - 1), BAD_VALUE);
      check.due(x.set(which, 10), BAD_VALUE);
      for (int value : FAR) { check.due(x.set(which, value), BAD_VALUE); }
      check.due(x.count(10 + which), 9);
      for (int value = least[which]; value <= 9; value++) {
        x.set(which, value);
        check.due(x.count(10 + which), value);
      }
    }
  }

  private static void toSwap() {
    check.sentence("Rivals and turns", "To swap is to exchange the numbers of two cells that are not frozen");
    for (int side = 3; side <= 4; side++) {
      int cells = side * side;
      for (int one = 0; one < cells; one++) {
        for (int other = 0; other < cells; other++) {
          if (one != other) { exchanged(side, one, other); }
        }
      }
    }
  }

  private static void exchanged(int side, int one, int other) {
    Parlour x = check.open();
    x.read(side == 3 ? Parlour.IN_ORDER_3 : Parlour.IN_ORDER_4);
    x.swap(one, other);
    for (int cell = 0; cell < side * side; cell++) {
      check.due(x.cell(cell, 0), cell == one ? other + 1 : cell == other ? one + 1 : cell + 1);
    }
  }

  private static void frozenCellsAreNotSwapped() {
    check.sentence("Rivals and turns", "two cells that are not frozen");
    Parlour x = check.open();
    x.freeze(0, 1);
    x.freeze(8, 6);
    check.due(x.swap(0, 1), NOT_POSSIBLE);
    check.due(x.swap(1, 0), NOT_POSSIBLE);
    check.due(x.swap(8, 1), NOT_POSSIBLE);
    check.due(x.swap(1, 8), NOT_POSSIBLE);
    check.due(x.swap(0, 8), NOT_POSSIBLE);
    check.due("numbers", x.numbers(), "1 2 3 4 5 6 7 8 9");
    check.due(x.swap(1, 2), 2);
  }

  private static void thePriceOfASwap() {
    check.sentence("Rivals and turns", "for the price of a swap, which goes to the pot");
    for (int price = 0; price <= 9; price++) {
      Parlour x = check.open();
      x.set(1, price);
      x.swap(0, 1);
      check.due(x.rival(0, 0), 100 - price);
      check.due(x.count(5), price);
      x.swap(0, 1);
      check.due(x.rival(0, 0), 100 - price);
      check.due(x.rival(1, 0), 100 - price);
      check.due(x.rival(2, 0), 100);
      check.due(x.count(5), 2 * price);
    }
  }

  private static void toFreeze() {
    check.sentence("Rivals and turns", "To freeze a cell that is not frozen for f swaps (1 to 6)");
    Parlour x = check.open();
    x.set(2, 0);
    check.due(x.freeze(0, 0), BAD_VALUE);
    check.due(x.freeze(0, 7), BAD_VALUE);
    for (int f = 1; f <= 6; f++) {
      check.due(x.freeze(f, f), f);
      check.due(x.cell(f, 1), f);
    }
    check.due(x.cell(0, 1), 0);
    check.due(x.cell(7, 1), 0);
  }

  private static void frozenCellsAreNotFrozen() {
    check.sentence("Rivals and turns", "a cell that is not frozen");
    Parlour x = check.open();
    x.freeze(4, 1);
    check.due(x.freeze(4, 1), NOT_POSSIBLE);
    check.due(x.freeze(4, 6), NOT_POSSIBLE);
    check.due(x.cell(4, 1), 1);
    x.swap(0, 1);
    check.due(x.freeze(4, 6), 1); // free again
    check.due(x.cell(4, 1), 6);
  }

  private static void thePriceOfAFreeze() {
    check.sentence("Rivals and turns", "for f times the price of a freeze, which goes to the pot, too");
    for (int price = 0; price <= 9; price++) {
      for (int f = 1; f <= 6; f++) {
        Parlour x = check.open();
        x.set(2, price);
        check.due(x.freeze(0, f), 1);
        check.due(x.rival(0, 0), 100 - f * price);
        check.due(x.count(5), f * price);
        check.due(x.rival(1, 0), 100);
      }
    }
  }

  private static void untilSoManySwaps() {
    check.sentence("Rivals and turns", "it is frozen until f swaps have been made since");
    for (int f = 1; f <= 6; f++) {
      Parlour x = check.open();
      x.swap(1, 2);
      x.freeze(0, f);
      for (int left = f; left >= 1; left--) {
        check.due(x.cell(0, 1), left);
        check.due(x.swap(0, 1), NOT_POSSIBLE);
        check.due(x.swap(8, 0), NOT_POSSIBLE);
        x.swap(1, 2);
      }
      check.due(x.cell(0, 1), 0);
      check.due(x.count(9), 0);
      check.due(x.swap(8, 0) >= 0 ? 1 : 0, 1);
      x.swap(1, 2);
      check.due(x.cell(0, 1), 0); // never below
    }
    for (int side = 3; side <= 4; side++) {
      for (int cell = 0; cell < side * side; cell++) { thawed(side, cell); }
    }
  }

  private static void thawed(int side, int cell) {
    Parlour x = check.open();
    x.lay(side, 0);
    x.freeze(cell, 2);
    int one = cell < 2 ? 2 : 0;
    int other = cell < 2 ? 3 : 1;
    x.swap(one, other);
    check.due(x.cell(cell, 1), 1);
    x.swap(one, other);
    check.due(x.cell(cell, 1), 0);
  }

  private static void whatThawsNothing() {
    check.sentence("Rivals and turns", "until f swaps have been made since");
    Parlour x = check.open();
    x.freeze(0, 1);
    x.pass();
    x.freeze(1, 2);
    x.stake(0, 0, 1);
    x.set(0, 1);
    x.swap(0, 2);
    x.swap(2, 9);
    x.swap(2, 2);
    x.would(2, 3, 0);
    x.best();
    x.keep();
    x.restore();
    check.due(x.cell(0, 1), 1);
    check.due(x.cell(1, 1), 2);
    x.swap(2, 3);
    check.due(x.cell(0, 1), 0);
    check.due(x.cell(1, 1), 1); // a settled round thaws none
    x.undo();
    check.due(x.cell(0, 1), 1);
    check.due(x.cell(1, 1), 2);
  }

  // ---- Promise 4

  private static void theCellsOfSwap() {
    check.sentence("Promise 4", "UNKNOWN (one or other)");
    Parlour x = check.open();
    check.due(x.swap(-1, 0), UNKNOWN);
    check.due(x.swap(0, -1), UNKNOWN);
    check.due(x.swap(9, 0), UNKNOWN);
    check.due(x.swap(0, 9), UNKNOWN);
    check.due(x.swap(15, 14), UNKNOWN);
    check.due(x.swap(0, 8), 4);
    check.due(x.swap(8, 0), 4);
    for (int cell : FAR) {
      check.due(x.swap(cell, 0), UNKNOWN);
      check.due(x.swap(0, cell), UNKNOWN);
    }
    x.read(Parlour.MAGIC_4);
    check.due(x.swap(-1, 15), UNKNOWN);
    check.due(x.swap(16, 0), UNKNOWN);
    check.due(x.swap(0, 16), UNKNOWN);
    check.due(x.swap(0, 15), 6);
    x.read(Parlour.IN_ORDER_3);
    check.due(x.swap(0, 9), UNKNOWN);
    check.due(x.swap(15, 0), UNKNOWN);
  }

  private static void theSameCell() {
    check.sentence("Promise 4", "BAD_VALUE if both are the same");
    Parlour x = check.open();
    for (int cell = 0; cell < 9; cell++) { check.due(x.swap(cell, cell), BAD_VALUE); }
    x.lay(4, 0);
    for (int cell = 0; cell < 16; cell++) { check.due(x.swap(cell, cell), BAD_VALUE); }
  }

  private static void eitherIsFrozen() {
    check.sentence("Promise 4", "NOT_POSSIBLE if either is frozen");
    for (int side = 3; side <= 4; side++) {
      int cells = side * side;
      for (int cell = 0; cell < cells; cell++) {
        Parlour x = check.open();
        x.lay(side, 0);
        x.freeze(cell, 1);
        int other = (cell + 1) % cells;
        check.due(x.swap(cell, other), NOT_POSSIBLE);
        check.due(x.swap(other, cell), NOT_POSSIBLE);
        check.due(x.swap(other, (cell + 2) % cells) >= 0 ? 1 : 0, 1);
      }
    }
  }

  private static void asMuchAsThePrice() {
    check.sentence("Promise 4", "FULL if the purse has not as much as the price");
    for (int price = 1; price <= 9; price++) {
      Parlour just = check.open();
      just.set(1, price);
      just.stake(0, 0, 100 - price);
      check.due(just.swap(0, 1), 2);
      check.due(just.rival(0, 0), 0);
      Parlour lacking = check.open();
      lacking.set(1, price);
      lacking.stake(0, 0, 100 - price);
      lacking.stake(0, 0, 1);
      check.due(lacking.swap(0, 1), FULL);
      check.due(lacking.rival(0, 0), price - 1);
    }
    Parlour empty = check.open();
    empty.stake(0, 0, 99);
    empty.stake(0, 0, 1);
    check.due(empty.swap(0, 1), FULL);
    empty.set(1, 0);
    check.due(empty.swap(0, 1), 2); // for nothing
    check.due(empty.rival(0, 0), 0);
    Parlour other = check.open(); // the purse of the one at turn, not another one's
    other.stake(0, 0, 99);
    other.stake(0, 0, 1);
    other.pass();
    check.due(other.swap(0, 1), 2);
  }

  private static void theAnswerOfSwap() {
    check.sentence("Promise 4", "Returns how many lines are magic then");
    Parlour x = check.open();
    x.set(1, 0);
    check.due(x.swap(0, 8), 4);
    x.read(Parlour.MAGIC_3);
    check.due(x.swap(0, 1), 5);
    check.due(x.swap(1, 0), 8); // all
    x.read(Parlour.MAGIC_4);
    check.due(x.swap(0, 3), 6);
    check.due(x.swap(7, 4), 8);
    check.due(x.swap(7, 4), 6);
    check.due(x.swap(0, 3), 10);
    x.read("593718642"); // 17 16 12 18 14 13 8 10: none
    check.due(x.count(3), 0);
    x.swap(7, 8);
    check.due(x.swap(7, 8), 0);
  }

  private static void swapIsAnAct() {
    check.sentence("Promise 4", "This is an act.");
    Parlour x = check.open();
    x.set(0, 1);
    x.freeze(8, 3);
    x.stake(0, 0, 5);
    String before = x.state();
    x.swap(0, 1);
    check.due(x.undo(), 3);
    check.due("undone", x.state(), before);
    x.swap(0, 1);
    check.due(x.count(13), 4);
  }

  // ---- Promise 5

  private static void theCellOfFreeze() {
    check.sentence("Promise 5", "cell: a cell");
    Parlour x = check.open();
    x.set(2, 0);
    check.due(x.freeze(-1, 1), UNKNOWN);
    check.due(x.freeze(0, 1), 1);
    check.due(x.freeze(8, 1), 2);
    check.due(x.freeze(9, 1), UNKNOWN);
    check.due(x.freeze(15, 1), UNKNOWN);
    for (int cell : FAR) { check.due(x.freeze(cell, 1), UNKNOWN); }
    x.lay(4, 0);
    check.due(x.freeze(-1, 1), UNKNOWN);
    check.due(x.freeze(9, 1), 1);
    check.due(x.freeze(15, 1), 2);
    check.due(x.freeze(16, 1), UNKNOWN);
  }

  private static void theSwapsOfFreeze() {
    check.sentence("Promise 5", "swaps: 1 to 6");
    Parlour x = check.open();
    check.due(x.freeze(0, 0), BAD_VALUE);
    check.due(x.freeze(0, -1), BAD_VALUE);
    check.due(x.freeze(0, 7), BAD_VALUE);
    for (int swaps : FAR) { check.due(x.freeze(0, swaps), BAD_VALUE); }
    check.due(x.freeze(0, 1), 1);
    check.due(x.freeze(1, 6), 2);
  }

  private static void asMuchAsTheFreeze() {
    check.sentence("Promise 5", "FULL if the purse has not as much as the price");
    for (int price = 1; price <= 9; price++) {
      for (int f = 1; f <= 6; f++) {
        Parlour just = check.open();
        just.set(2, price);
        just.stake(0, 0, 100 - f * price);
        check.due(just.freeze(0, f), 1);
        check.due(just.rival(0, 0), 0);
        Parlour lacking = check.open();
        lacking.set(2, price);
        lacking.stake(0, 0, 100 - f * price);
        lacking.stake(0, 0, 1);
        check.due(lacking.freeze(0, f), FULL);
        check.due(lacking.rival(0, 0), f * price - 1);
      }
    }
    Parlour empty = check.open();
    empty.stake(0, 0, 99);
    empty.stake(0, 0, 1);
    check.due(empty.freeze(0, 1), FULL);
    empty.set(2, 0);
    check.due(empty.freeze(0, 6), 1); // for nothing
    check.due(empty.rival(0, 0), 0);
    Parlour other = check.open(); // the purse of the one at turn, not another one's
    other.stake(0, 0, 99);
    other.stake(0, 0, 1);
    other.pass();
    check.due(other.freeze(0, 6), 1);
  }

  private static void theAnswerOfFreeze() {
    check.sentence("Promise 5", "Returns how many cells are frozen then");
    Parlour x = check.open();
    x.set(2, 0);
    for (int cell = 0; cell < 9; cell++) { check.due(x.freeze(cell, 1 + cell % 6), cell + 1); }
    x.lay(4, 0);
    for (int cell = 15; cell >= 0; cell--) { check.due(x.freeze(cell, 1 + cell % 6), 16 - cell); }
    check.due(x.count(9), 16); // all of them
    Parlour thawed = check.open();
    check.due(thawed.freeze(0, 1), 1);
    check.due(thawed.freeze(1, 2), 2);
    thawed.swap(3, 4);
    check.due(thawed.freeze(2, 1), 2); // one thawed in between
  }

  private static void freezeIsAnAct() {
    check.sentence("Promise 5", "This is an act.");
    Parlour x = check.open();
    x.freeze(8, 3);
    String before = x.state();
    x.freeze(0, 6);
    check.due(x.undo(), 1);
    check.due("undone", x.state(), before);
    check.due(x.freeze(0, 6), 2);
    check.due(x.count(13), 2);
  }

  // ---- Promise 7

  private static void thePass() {
    check.sentence("Promise 7", "Passes the turn. ... Returns the rival at turn then.");
    Parlour x = check.open();
    for (int i = 0; i < 7; i++) {
      check.due(x.pass(), (i + 1) % 3); // behind 2 comes 0
      check.due(x.count(4), (i + 1) % 3);
    }
    check.due(x.count(7), 0);
    check.due(x.count(8), 0);
    check.due(x.count(5), 0);
    for (int rival = 0; rival < 3; rival++) { check.due(x.rival(rival, 0), 100); }
  }

  private static void passIsAnAct() {
    check.sentence("Promise 7", "This is an act.");
    Parlour x = check.open();
    x.pass();
    x.pass();
    check.due(x.count(13), 2);
    check.due(x.undo(), 1);
    check.due(x.count(4), 1);
    check.due(x.undo(), 0);
    check.due(x.count(4), 0);
  }

  // ---- Promise 8

  private static void theWhichOfSet() {
    check.sentence("Promise 8", "which: 0 to 2");
    Parlour x = check.open();
    check.due(x.set(-1, 5), BAD_VALUE);
    check.due(x.set(3, 5), BAD_VALUE);
    for (int which : FAR) { check.due(x.set(which, 5), BAD_VALUE); }
    check.due(x.set(0, 5), 3);
    check.due(x.set(1, 5), 1);
    check.due(x.set(2, 5), 2);
  }

  private static void theAnswerOfSet() {
    check.sentence("Promise 8", "Returns the previous one; BAD_VALUE (which or value)");
    Parlour x = check.open();
    check.due(x.set(0, 1), 3);
    check.due(x.set(0, 9), 1);
    check.due(x.set(1, 0), 1);
    check.due(x.set(1, 9), 0);
    check.due(x.set(2, 9), 2);
    check.due(x.set(2, 0), 9);
    check.due(x.set(0, 0), BAD_VALUE); // 0 is in the range of the others alone
    check.due(x.set(3, 0), BAD_VALUE);
    check.due(x.set(-1, 10), BAD_VALUE);
    check.due(x.set(0, 2), 9);
  }

  private static void itIsSoAlready() {
    check.sentence("Promise 8", "NONE if it is so already");
    Parlour x = check.open();
    check.due(x.set(0, 3), NONE);
    check.due(x.set(1, 1), NONE);
    check.due(x.set(2, 2), NONE);
    check.due(x.count(13), 0);
    x.set(0, 1);
    x.set(1, 0);
    x.set(2, 0);
    check.due(x.set(0, 1), NONE);
    check.due(x.set(1, 0), NONE);
    check.due(x.set(2, 0), NONE);
    x.set(0, 9);
    x.set(1, 9);
    x.set(2, 9);
    check.due(x.set(0, 9), NONE);
    check.due(x.set(1, 9), NONE);
    check.due(x.set(2, 9), NONE);
    check.due(x.set(0, 3), 9);
  }

  private static void setIsAnAct() {
    check.sentence("Promise 8", "This is an act.");
    int[] first = {3, 1, 2};
    for (int which = 0; which < 3; which++) {
      Parlour x = check.open();
      x.set(which, 7);
      check.due(x.count(13), 1);
      check.due(x.undo(), 0);
      check.due(x.count(10 + which), first[which]);
    }
  }
}
