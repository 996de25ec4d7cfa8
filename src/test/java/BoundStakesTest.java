/** The boundary cases of the sentences on stakes (Terms) and of the promise 6; a function for each sentence. */
public final class BoundStakesTest {
  private static final int UNKNOWN = -1;
  private static final int BAD_VALUE = -2;
  private static final int FULL = -3;
  private static final int NONE = -5;
  private static final int[] FAR = {Integer.MIN_VALUE, Integer.MIN_VALUE + 1, -256, 256, Integer.MAX_VALUE - 1, Integer.MAX_VALUE};
  /** 11 13 7 5 / 10 8 4 9 / 12 16 1 6 / 3 15 2 14: three of the ten lines are magic. */
  private static final String THREE_OF_TEN = "kmgejhdilpafcobn";
  private static final Check check = new Check("BoundStakesTest");

  public static void main(String[] args) {
    atMostTen();
    inTheirOrder();
    ofTheRivalAtTurn();
    theKinds();
    magicByOneOff();
    fromThePurseToTheTable();
    theSumIsKept();
    theOddsAreKept();
    oddsOfTheKindZero();
    oddsOfTheOtherKinds();
    theLastSwapOfARound();
    orMoreIfItWasMadeLess();
    madeGreater();
    aRoundAnew();
    whoIsRight();
    roundedDown();
    floatsNotDoubles();
    whoeverIsWrong();
    fromTheParlour();
    thenNoStakes();
    squaresMadeMagic();
    madeMagicOtherwise();
    magicAheadOfIt();
    whoMadeTheSwap();
    thePotWithThePrice();
    thePotIsEmptyThen();
    behindTheSettlement();
    ifThereIsOne();

    theLine();
    theKind();
    theAmount();
    theTurnIsNotPassed();
    theAnswerOfStake();
    fullOrPoor();
    stakeIsAnAct();
    check.end();
  }

  // ---- Terms, stakes

  private static void atMostTen() {
    check.sentence("Stakes", "There are at most 10 stakes at a time");
    Parlour x = check.open();
    for (int i = 1; i <= 9; i++) { x.stake(0, 0, 1); }
    check.due(x.stake(7, 2, 1), 10);
    check.due(x.stake(0, 0, 1), FULL);
    x.pass();
    check.due(x.stake(0, 0, 1), FULL); // ten of all rivals together
    check.due(x.count(6), 10);
    check.due(x.stakeOf(9, 1), 7);
    check.due(x.stakeOf(10, 1), UNKNOWN);
    x.set(0, 1);
    x.swap(0, 1);
    for (int i = 1; i <= 10; i++) { check.due(x.stake(0, 0, 1), i); } // at a time
    check.due(x.stake(0, 0, 1), FULL);
    x.lay(3, 0);
    for (int i = 1; i <= 10; i++) { check.due(x.stake(0, 0, 1), i); }
    check.due(x.stake(0, 0, 1), FULL);
    x.undo();
    check.due(x.stake(1, 1, 1), 10);
    check.due(x.stake(0, 0, 1), FULL);
  }

  private static void inTheirOrder() {
    check.sentence("Stakes", "in the order in which they were laid");
    Parlour x = check.open();
    int[] lines = {7, 0, 3, 3, 6, 1, 5, 2, 4, 0};
    for (int i = 0; i < 10; i++) {
      x.stake(lines[i], (i + 1) % 3, 10 - i);
      x.pass();
    }
    for (int i = 0; i < 10; i++) {
      check.due(x.stakeOf(i, 0), i % 3);
      check.due(x.stakeOf(i, 1), lines[i]);
      check.due(x.stakeOf(i, 2), (i + 1) % 3);
      check.due(x.stakeOf(i, 3), 10 - i);
    }
    x.undo();
    x.undo(); // the tenth is gone
    x.stake(5, 0, 50);
    check.due(x.stakeOf(8, 1), 4);
    check.due(x.stakeOf(9, 1), 5);
    check.due(x.stakeOf(9, 3), 50);
  }

  private static void ofTheRivalAtTurn() {
    check.sentence("Stakes", "A stake is of the rival at turn");
    for (int rival = 0; rival < 3; rival++) {
      Parlour x = check.open();
      x.passTo(rival);
      x.stake(0, 0, 40);
      check.due(x.stakeOf(0, 0), rival);
      for (int one = 0; one < 3; one++) {
        check.due(x.rival(one, 0), one == rival ? 60 : 100);
        check.due(x.rival(one, 2), one == rival ? 1 : 0);
        check.due(x.rival(one, 3), one == rival ? 40 : 0);
      }
      x.pass();
      check.due(x.stakeOf(0, 0), rival); // also when another is
    }
  }

  /** Stakes of all kinds on the middle column, whose sum is 15: the odds are 1.0f, 1.5f, 1.5f. */
  private static Parlour threeKinds() {
    Parlour x = check.open();
    x.set(0, 1);
    x.set(1, 0);
    x.stake(4, 0, 10);
    x.stake(4, 1, 10);
    x.stake(4, 2, 10);
    return x;
  }

  private static void theKinds() {
    check.sentence("Stakes", "for a kind: 0 the line will be magic, 1 its sum will be greater than it is now, 2 it will be less");
    // as it is: neither greater nor less
    Parlour same = threeKinds();
    areRight(same, 1, 0, 0);
    check.due(same.would(0, 2, 2), 10);
    same.swap(0, 2);
    check.due(same.line(4, 0), 15);
    check.due(same.rival(0, 0), 70 + 10);
    check.due(same.count(5), 20);
    Parlour less = threeKinds();
    check.due(less.would(0, 1, 2), 15);
    less.swap(0, 1);
    check.due(less.line(4, 0), 14);
    check.due(less.rival(0, 0), 70 + 15);
    check.due(less.count(5), 20);
    less.undo();
    less.set(0, 9);
    less.swap(0, 1);
    areRight(less, 0, 0, 1);
    Parlour greater = threeKinds();
    check.due(greater.would(1, 2, 2), 15);
    greater.swap(1, 2);
    check.due(greater.line(4, 0), 16);
    check.due(greater.rival(0, 0), 70 + 15);
    check.due(greater.count(5), 20);
    greater.undo();
    greater.set(0, 9);
    greater.swap(1, 2);
    areRight(greater, 0, 1, 0);
  }

  private static void areRight(Parlour x, int magic, int greater, int less) {
    check.due(x.stakeOf(0, 5), magic);
    check.due(x.stakeOf(1, 5), greater);
    check.due(x.stakeOf(2, 5), less);
  }

  private static void magicByOneOff() {
    check.sentence("Stakes", "0 the line will be magic");
    Parlour x = check.open();
    x.read("nfdhjlapbomgikec"); // the lines 9, 7, 4 are 33, 34, 35
    x.set(0, 1);
    x.stake(9, 0, 10);
    x.stake(7, 0, 20);
    x.stake(4, 0, 30);
    areRight(x, 0, 1, 0);
    check.due(x.rival(0, 4), 20);
    x.swap(1, 2); // 14 4 6 8: of the three, none has the cells
    check.due(x.rival(0, 0), 100 - 60 - 1 + 20);
    check.due(x.count(5), 41);
  }

  private static void fromThePurseToTheTable() {
    check.sentence("Stakes", "of 1 to 99, which go from the purse to the table");
    Parlour x = check.open();
    check.due(x.stake(0, 0, 0), BAD_VALUE);
    check.due(x.stake(0, 0, 100), BAD_VALUE);
    x.stake(0, 0, 1);
    check.due(x.rival(0, 0), 99);
    check.due(x.count(15), 1);
    x.stake(0, 0, 99);
    check.due(x.rival(0, 0), 0);
    check.due(x.count(15), 100);
    x.pass();
    x.stake(0, 0, 99);
    x.pass();
    x.stake(0, 0, 99);
    check.due(x.count(15), 298);
    check.due(x.count(5), 0); // not to the pot
  }

  private static void theSumIsKept() {
    check.sentence("Stakes", "The sum of the line as the stake is laid is kept");
    Parlour x = check.open();
    x.set(0, 9);
    x.stake(0, 1, 1); // 6
    x.swap(0, 8); // 9 2 3
    x.stake(0, 1, 1); // 14
    x.swap(0, 8);
    x.stake(2, 2, 1); // 24
    x.swap(2, 7); // 1 2 8 / 4 5 6 / 7 3 9
    check.due(x.stakeOf(0, 4), 6);
    check.due(x.stakeOf(1, 4), 14);
    check.due(x.stakeOf(2, 4), 24);
    check.due(x.line(0, 0), 11);
    check.due(x.stakeOf(0, 5), 1); // 11 is more than 6
    check.due(x.stakeOf(1, 5), 0); // and not than 14
    check.due(x.stakeOf(2, 5), 1); // 19 is less than 24
  }

  private static void theOddsAreKept() {
    check.sentence("Stakes", "and so are the odds, a float");
    Parlour x = check.open();
    x.set(0, 9);
    x.stake(0, 0, 10); // 9 off
    x.stake(0, 1, 10); // four of eight
    x.swap(0, 8); // 9 2 3: 1 off; the middle row and column, the diagonals
    x.swap(0, 1); // 2 9 3: the middle row, the last diagonal
    check.due(x.count(3), 2);
    check.due(x.odds(0), 3.25f);
    check.due(x.odds(1), 1.5f);
    check.due(x.stakeOf(0, 6), 32);
    check.due(x.stakeOf(1, 6), 15);
    x.stake(0, 0, 10);
    x.stake(0, 1, 10);
    check.due(x.odds(2), 1.25f);
    check.due(x.odds(3), 1.25f);
    check.due(x.odds(0), 3.25f);
    check.due(x.odds(1), 1.5f);
  }

  private static void oddsOfTheKindZero() {
    check.sentence("Stakes", "of the kind 0 1.0f + (float) d / 4.0f, d being the difference of the line's sum and the magic "
        + "number, without a sign");
    Parlour x = check.open();
    x.stake(0, 0, 1); // 6: 9 off
    check.due(x.odds(0), 3.25f);
    x.stake(2, 0, 1); // 24: 9 off
    check.due(x.odds(1), 3.25f);
    x.stake(1, 0, 1); // 15
    check.due(x.odds(2), 1.0f);
    x.read("213456789");
    x.stake(4, 0, 1); // 14: 1 off
    check.due(x.odds(0), 1.25f);
    x.stake(6, 0, 1); // 16: 1 off
    check.due(x.odds(1), 1.25f);
    Parlour four = check.open();
    four.read(Parlour.IN_ORDER_4);
    four.stake(0, 0, 1); // 10: 24 off
    check.due(four.odds(0), 7.0f);
    four.stake(3, 0, 1); // 58: 24 off
    check.due(four.odds(1), 7.0f);
    four.stake(8, 0, 1); // 34
    check.due(four.odds(2), 1.0f);
    for (int seed = 0; seed < 40; seed++) {
      for (int side = 3; side <= 4; side++) { oddsOfLines(side, seed); }
    }
  }

  private static void oddsOfLines(int side, int seed) {
    Parlour x = check.open();
    x.lay(side, seed);
    for (int line = 0; line < 2 * side + 2; line++) {
      x.stake(line, 0, 1);
      float d = Math.abs(x.line(line, 0) - (side == 3 ? 15 : 34));
      check.due(x.odds(line), 1.0f + d / 4.0f);
    }
  }

  private static void oddsOfTheOtherKinds() {
    check.sentence("Stakes", "of the kinds 1 and 2 1.0f + (float) m / (float) l, m being the magic lines of the square and l all lines");
    // no line is magic, and all are
    oddsOfSquare("593718642", 1.0f);
    oddsOfSquare(Parlour.MAGIC_3, 2.0f);
    oddsOfSquare("537942186", 1.875f);
    oddsOfSquare(Parlour.IN_ORDER_3, 1.5f);
    oddsOfSquare("571698423", 1.125f);
    oddsOfSquare(Parlour.MAGIC_4, 2.0f);
    oddsOfSquare("abopkncfihlemjdg", 1.9f);
    oddsOfSquare(THREE_OF_TEN, 1.3f);
    oddsOfSquare(Parlour.IN_ORDER_4, 1.2f);
    oddsOfSquare("nfdhjlapbomgikec", 1.1f);
    oddsOfSquare("dmbhijlkfencagpo", 1.0f);
  }

  private static void oddsOfSquare(String text, float odds) {
    Parlour x = check.open();
    x.read(text);
    x.stake(0, 1, 1);
    check.due(x.odds(0), odds);
    x.stake(1, 2, 1);
    check.due(x.odds(1), odds);
    x.stake(7, 1, 1);
    check.due(x.odds(2), odds);
  }

  private static void theLastSwapOfARound() {
    check.sentence("Stakes", "When the last swap of a round has been made (as many as the setting 0 tells");
    for (int swaps = 1; swaps <= 9; swaps++) {
      Parlour x = check.open();
      x.set(0, swaps);
      for (int round = 0; round < 3; round++) {
        x.stake(1, 0, 1);
        for (int made = 1; made < swaps; made++) {
          x.swap(0, 1);
          check.due(x.count(6), 1);
          check.due(x.count(7), made);
        }
        x.freeze(8, 1);
        x.pass();
        check.due(x.count(6), 1); // by swaps alone
        x.swap(0, 1);
        check.due(x.count(6), 0);
        check.due(x.count(7), 0);
      }
      check.due(x.count(8), 3 * swaps);
    }
  }

  private static void orMoreIfItWasMadeLess() {
    check.sentence("Stakes", "or more, if it was made less)");
    for (int setting = 1; setting <= 8; setting++) {
      Parlour x = check.open();
      x.set(0, 9);
      x.stake(1, 0, 1);
      for (int i = 0; i < 5; i++) { x.swap(0, 1); }
      x.set(0, setting);
      check.due(x.count(6), 1); // no swap has been made
      check.due(x.count(7), 5);
      x.swap(0, 1);
      check.due(x.count(6), setting <= 6 ? 0 : 1);
      check.due(x.count(7), setting <= 6 ? 0 : 6);
      x.swap(0, 1);
      check.due(x.count(6), setting <= 7 ? 0 : 1);
    }
  }

  private static void madeGreater() {
    check.sentence("Stakes", "as many as the setting 0 tells");
    Parlour x = check.open();
    x.stake(1, 0, 1);
    x.swap(0, 1);
    x.swap(0, 1);
    x.set(0, 4);
    x.swap(0, 1);
    check.due(x.count(6), 1);
    check.due(x.count(7), 3);
    x.swap(0, 1);
    check.due(x.count(6), 0);
    check.due(x.count(7), 0);
  }

  private static void aRoundAnew() {
    check.sentence("Stakes", "the last swap of a round");
    Parlour x = check.open();
    for (int i = 0; i < 3; i++) { x.swap(0, 1); } // a round without stakes has an end, too
    check.due(x.count(7), 0);
    x.stake(1, 0, 1);
    x.swap(0, 1);
    x.swap(0, 1);
    check.due(x.count(6), 1);
    check.due(x.swap(0, 0), BAD_VALUE); // none that is refused
    check.due(x.count(6), 1);
    x.undo();
    x.swap(0, 1);
    check.due(x.count(6), 1);
    x.swap(0, 1);
    check.due(x.count(6), 0);
  }

  private static void whoIsRight() {
    check.sentence("Stakes", "stakes are settled, one after the other: who is right gets (int) ((float) amount * odds) into the purse");
    // That one comes after the other can't be seen: only the limit of a purse, which no run reaches, would tell it.
    Parlour x = check.open();
    x.set(0, 1);
    x.set(1, 0);
    x.stake(1, 0, 10); // right, 1.0f
    x.stake(0, 1, 10); // right, 1.5f
    x.pass();
    x.stake(2, 2, 99); // right, 1.5f
    x.pass();
    x.stake(0, 0, 99); // wrong
    check.due(x.rival(0, 4), 10);
    x.passTo(0);
    x.swap(0, 8);
    check.due(x.rival(0, 0), 80 + 10 + 15);
    check.due(x.rival(1, 0), 1 + 148);
    check.due(x.rival(2, 0), 1);
    check.due(x.count(5), 99);
    Parlour ten = check.open(); // the tenth is paid as the first
    ten.set(0, 1);
    ten.set(1, 0);
    for (int i = 1; i <= 10; i++) { ten.stake(1, 0, i); }
    ten.swap(0, 1);
    check.due(ten.rival(0, 0), 100);
    check.due(ten.count(5), 0);
  }

  private static void roundedDown() {
    check.sentence("Stakes", "(int) ((float) amount * odds)");
    // 3.25f and 1.5f
    pays(Parlour.IN_ORDER_3, 0, 0, 1, 3);
    pays(Parlour.IN_ORDER_3, 0, 0, 2, 6);
    pays(Parlour.IN_ORDER_3, 0, 0, 3, 9);
    pays(Parlour.IN_ORDER_3, 0, 0, 4, 13);
    pays(Parlour.IN_ORDER_3, 0, 0, 99, 321);
    pays(Parlour.IN_ORDER_3, 0, 1, 1, 1);
    pays(Parlour.IN_ORDER_3, 0, 1, 2, 3);
    pays(Parlour.IN_ORDER_3, 0, 1, 99, 148);
    pays("537942186", 0, 1, 1, 1); // 1.875f
    pays("537942186", 0, 1, 7, 13);
    pays("537942186", 0, 1, 8, 15);
    pays(Parlour.MAGIC_3, 0, 0, 99, 99);
    pays(Parlour.MAGIC_3, 0, 1, 99, 198);
    pays("593718642", 0, 1, 99, 99);
    pays(Parlour.IN_ORDER_4, 0, 0, 99, 693);
    pays(Parlour.IN_ORDER_4, 0, 1, 99, 118);
    // each for itself: two of 1.5 are 1 + 1
    Parlour x = check.open();
    x.set(0, 1);
    x.set(1, 0);
    x.stake(0, 1, 1);
    x.stake(0, 1, 1);
    check.due(x.would(0, 8, 2), 2);
    x.swap(0, 8);
    check.due(x.rival(0, 0), 98 + 2);
  }

  private static void pays(String text, int line, int kind, int amount, int payout) {
    Parlour x = check.open();
    x.read(text);
    x.stake(line, kind, amount);
    check.due(x.stakeOf(0, 6), payout);
  }

  private static void floatsNotDoubles() {
    check.sentence("Stakes", "(float) amount * odds");
    // 1.3f is a little less than 1.3; as a float, ten times it is 13, as a double not; 90 times it is less than 117
    Parlour x = check.open();
    x.read(THREE_OF_TEN);
    x.set(0, 1);
    x.set(1, 0);
    x.stake(0, 1, 10);
    x.stake(0, 1, 90);
    check.due(x.stakeOf(0, 6), 13);
    check.due(x.stakeOf(1, 6), 116);
    check.due(x.would(3, 9, 2), 129);
    x.swap(3, 9);
    check.due(x.rival(0, 0), 129);
    pays(THREE_OF_TEN, 0, 1, 20, 26);
    pays(THREE_OF_TEN, 0, 1, 70, 91);
    pays("abopkncfihlemjdg", 0, 1, 10, 19); // 1.9f
    pays("abopkncfihlemjdg", 0, 2, 90, 171);
  }

  private static void whoeverIsWrong() {
    check.sentence("Stakes", "whoever is wrong gets nothing, and the amount goes to the pot");
    Parlour x = check.open();
    x.set(0, 1);
    x.set(1, 0);
    x.stake(0, 0, 99);
    x.stake(0, 2, 1);
    x.pass();
    x.stake(2, 1, 30);
    x.pass();
    x.stake(3, 0, 40);
    x.swap(1, 2);
    check.due(x.rival(0, 0), 0);
    check.due(x.rival(1, 0), 70);
    check.due(x.rival(2, 0), 60);
    check.due(x.count(5), 99 + 1 + 30 + 40);
    check.due(x.rival(0, 1) + x.rival(1, 1) + x.rival(2, 1), 0);
  }

  private static void fromTheParlour() {
    check.sentence("Stakes", "(What is paid beyond the amount comes from the parlour.)");
    Parlour x = check.open();
    x.set(0, 1);
    x.set(1, 0);
    x.stake(0, 1, 99);
    x.swap(0, 8);
    check.due(x.rival(0, 0), 1 + 148);
    check.due(x.count(5), 0); // from nobody's purse, and not from the pot
    check.due(x.rival(1, 0), 100);
    check.due(x.rival(2, 0), 100);
    Parlour pot = check.open();
    pot.set(0, 1);
    pot.set(1, 9);
    pot.stake(0, 1, 10);
    pot.swap(0, 8);
    check.due(pot.count(5), 9);
    check.due(pot.rival(0, 0), 90 - 9 + 15);
  }

  private static void thenNoStakes() {
    check.sentence("Stakes", "Then there are no stakes.");
    Parlour x = check.open();
    x.set(0, 1);
    for (int i = 0; i < 10; i++) { x.stake(i % 8, i % 3, 5); }
    x.swap(0, 8);
    check.due(x.count(6), 0);
    check.due(x.count(15), 0);
    check.due(x.stakeOf(0, 0), UNKNOWN);
    check.due(x.stakeOf(9, 0), UNKNOWN);
    check.due(x.odds(0), -1.0f);
    check.due(x.meanOddsBits(), 0);
    for (int line = 0; line < 8; line++) {
      check.due(x.line(line, 3), 0);
      check.due(x.line(line, 4), 0);
    }
    check.due(x.rival(0, 2), 0);
    check.due(x.rival(0, 3), 0);
    check.due(x.rival(0, 4), 0);
    check.due(x.would(0, 8, 2), 0);
    int purse = x.rival(0, 0);
    int pot = x.count(5);
    x.swap(0, 8); // nothing is settled twice
    check.due(x.rival(0, 0), purse);
    check.due(x.count(5), pot + 1);
    Parlour right = check.open(); // nor told of one that was right and would be so again
    right.set(0, 1);
    right.stake(1, 0, 10);
    right.swap(0, 1);
    isNoMore(right);
    Parlour undone = check.open();
    undone.stake(1, 0, 10);
    undone.undo();
    isNoMore(undone);
    Parlour second = check.open(); // nor of one behind those that are there
    second.stake(0, 0, 10);
    second.stake(1, 0, 20);
    second.undo();
    check.due(second.rival(0, 4), 0);
    check.due(second.would(0, 1, 2), 0);
    check.due(second.line(1, 3), 0);
    check.due(second.count(15), 10);
  }

  private static void isNoMore(Parlour x) {
    check.due(x.rival(0, 4), 0);
    check.due(x.would(0, 1, 2), 0);
    check.due(x.line(1, 3), 0);
    check.due(x.line(1, 4), 0);
    check.due(x.rival(0, 2), 0);
    check.due(x.rival(0, 3), 0);
    check.due(x.count(15), 0);
    check.due(x.stakeOf(0, 3), UNKNOWN);
    check.due(x.odds(0), -1.0f);
  }

  private static void squaresMadeMagic() {
    check.sentence("Stakes", "When a swap makes the square magic");
    String[] magic = {"492357816", "294753618", "816357492", "618753294", "276951438", "672159834", "438951276", "834159672",
      Parlour.MAGIC_4};
    for (String text : magic) {
      Parlour x = check.open();
      check.due(x.read(text), 0);
      x.swap(0, 1);
      check.due(x.rival(0, 1), 0); // not by one that makes it otherwise
      x.swap(0, 1);
      check.due(x.rival(1, 1), 1);
      x.swap(2, 5);
      check.due(x.rival(2, 1), 0);
      x.swap(2, 5);
      check.due(x.rival(0, 1), 1);
      check.due(x.rival(1, 1), 1);
    }
  }

  private static void madeMagicOtherwise() {
    check.sentence("Stakes", "a swap makes the square magic");
    Parlour x = check.open();
    x.freeze(0, 1);
    check.due(x.lay(3, 4544), 0);
    check.due(x.read(Parlour.MAGIC_3), 0);
    x.keep();
    x.swap(0, 1);
    x.undo();
    check.due(x.count(2), 0);
    x.swap(0, 1);
    check.due(x.restore(), 0);
    x.freeze(0, 1);
    x.stake(0, 0, 1);
    x.pass();
    x.set(0, 9);
    check.due(x.count(2), 0);
    check.due(x.rival(0, 1) + x.rival(1, 1) + x.rival(2, 1), 0);
    check.due(x.count(5), 4);
  }

  /**
   * That a square which was magic ahead of the swap is not won can be seen in no run: cells that are swapped hold two
   * numbers, so their rows' sums change, or, in one row, their columns' sums: no swap makes a magic square a magic one.
   * Here each swap of such squares is tried.
   */
  private static void magicAheadOfIt() {
    check.sentence("Stakes", "(it was not so ahead of it)");
    String[] magic = {"492357816", "276951438", Parlour.MAGIC_4};
    for (String text : magic) {
      int cells = text.length();
      for (int one = 0; one < cells; one++) {
        for (int other = one + 1; other < cells; other++) {
          Parlour x = check.open();
          x.read(text);
          int lines = cells == 9 ? 8 : 10;
          check.due("magic lines", x.swap(one, other) < lines ? 1 : 0, 1);
          check.due(x.rival(0, 1), 0);
          check.due(x.rival(0, 0), 99);
          check.due(x.count(5), 1);
        }
      }
    }
  }

  private static void whoMadeTheSwap() {
    check.sentence("Stakes", "the rival who made it wins it");
    for (int rival = 0; rival < 3; rival++) {
      Parlour x = check.open();
      x.read(Parlour.MAGIC_3);
      x.set(1, 9);
      x.swap(0, 1);
      x.passTo(rival);
      x.swap(0, 1);
      for (int one = 0; one < 3; one++) { check.due(x.rival(one, 1), one == rival ? 1 : 0); }
      check.due(x.rival(rival, 0), rival == 0 ? 100 : 109);
      check.due(x.count(4), (rival + 1) % 3);
    }
  }

  private static void thePotWithThePrice() {
    check.sentence("Stakes", "the pot (with the price of this swap) goes into the purse");
    Parlour x = check.open();
    x.read(Parlour.MAGIC_3);
    x.set(1, 9);
    x.swap(0, 1);
    x.stake(0, 0, 91);
    check.due(x.rival(1, 0), 9); // just the price
    x.swap(0, 1);
    check.due(x.rival(1, 0), 9 + 9);
    check.due(x.rival(0, 0), 91);
    check.due(x.rival(2, 0), 100);
    Parlour nothing = check.open(); // a pot of nothing
    nothing.read(Parlour.MAGIC_3);
    nothing.set(1, 0);
    nothing.swap(0, 1);
    nothing.swap(0, 1);
    check.due(nothing.rival(1, 0), 100);
    check.due(nothing.rival(1, 1), 1);
    Parlour all = check.open(); // of swaps, freezes and stakes that were lost
    all.set(1, 5);
    all.stake(0, 0, 30);
    all.read(Parlour.MAGIC_3);
    all.swap(0, 1);
    all.freeze(8, 6);
    check.due(all.count(5), 30 + 5 + 12);
    all.swap(0, 1);
    check.due(all.rival(2, 0), 100 - 5 + 52);
  }

  private static void thePotIsEmptyThen() {
    check.sentence("Stakes", "and is empty then");
    Parlour x = check.open();
    x.read(Parlour.MAGIC_3);
    x.swap(0, 1);
    check.due(x.count(5), 1);
    x.swap(0, 1);
    check.due(x.count(5), 0);
    x.swap(0, 1);
    check.due(x.count(5), 1);
    x.swap(0, 1);
    check.due(x.count(5), 0);
    check.due(x.rival(0, 0), 99 - 1 + 2);
  }

  private static void behindTheSettlement() {
    check.sentence("Stakes", "this comes behind the settlement");
    Parlour x = check.open();
    x.read(Parlour.MAGIC_3);
    x.set(0, 2);
    x.set(1, 0);
    x.swap(0, 1); // 9 4 2: the first column is 20
    x.stake(3, 0, 8); // right: 1 + 5/4, 18
    x.stake(3, 1, 40); // wrong
    x.pass();
    x.stake(4, 0, 20); // right: 10, 1 + 5/4, 45
    x.stake(4, 2, 30); // wrong
    x.passTo(1);
    x.swap(0, 1);
    check.due(x.count(5), 0);
    check.due(x.rival(1, 0), 52 + 18 + 40 + 30);
    check.due(x.rival(2, 0), 50 + 45);
    check.due(x.rival(0, 0), 100);
    check.due(x.rival(1, 1), 1);
  }

  private static void ifThereIsOne() {
    check.sentence("Stakes", "if there is one");
    Parlour x = check.open();
    x.read(Parlour.MAGIC_3);
    x.set(1, 0);
    x.swap(0, 1);
    x.stake(3, 1, 40);
    x.swap(0, 1); // the second of three
    check.due(x.rival(1, 1), 1);
    check.due(x.count(6), 1);
    check.due(x.count(15), 40);
    check.due(x.rival(1, 0), 60);
    check.due(x.count(5), 0);
    x.swap(2, 5);
    check.due(x.count(6), 0);
    check.due(x.count(5), 40); // lost behind it, and still there
  }

  // ---- Promise 6

  private static void theLine() {
    check.sentence("Promise 6", "line: a line");
    Parlour x = check.open();
    check.due(x.stake(-1, 0, 1), UNKNOWN);
    check.due(x.stake(0, 0, 1), 1);
    check.due(x.stake(7, 0, 1), 2);
    check.due(x.stake(8, 0, 1), UNKNOWN);
    check.due(x.stake(9, 0, 1), UNKNOWN);
    for (int line : FAR) { check.due(x.stake(line, 0, 1), UNKNOWN); }
    x.lay(4, 0);
    check.due(x.stake(-1, 0, 1), UNKNOWN);
    check.due(x.stake(8, 0, 1), 1);
    check.due(x.stake(9, 0, 1), 2);
    check.due(x.stake(10, 0, 1), UNKNOWN);
    x.lay(3, 0);
    check.due(x.stake(8, 0, 1), UNKNOWN);
  }

  private static void theKind() {
    check.sentence("Promise 6", "kind: 0 to 2");
    Parlour x = check.open();
    check.due(x.stake(0, -1, 1), BAD_VALUE);
    check.due(x.stake(0, 0, 1), 1);
    check.due(x.stake(0, 1, 1), 2);
    check.due(x.stake(0, 2, 1), 3);
    check.due(x.stake(0, 3, 1), BAD_VALUE);
    for (int kind : FAR) { check.due(x.stake(0, kind, 1), BAD_VALUE); }
    for (int i = 0; i < 3; i++) { check.due(x.stakeOf(i, 2), i); }
  }

  private static void theAmount() {
    check.sentence("Promise 6", "amount: 1 to 99");
    Parlour x = check.open();
    check.due(x.stake(0, 0, 0), BAD_VALUE);
    check.due(x.stake(0, 0, -1), BAD_VALUE);
    check.due(x.stake(0, 0, 100), BAD_VALUE);
    for (int amount : FAR) { check.due(x.stake(0, 0, amount), BAD_VALUE); }
    check.due(x.stake(0, 0, 99), 1);
    check.due(x.stakeOf(0, 3), 99);
    check.due(x.stake(0, 0, 1), 2);
    check.due(x.stakeOf(1, 3), 1);
  }

  private static void theTurnIsNotPassed() {
    check.sentence("Promise 6", "(the turn is not passed)");
    for (int rival = 0; rival < 3; rival++) {
      Parlour x = check.open();
      x.passTo(rival);
      x.stake(0, 0, 1);
      check.due(x.count(4), rival);
      x.stake(0, 1, 1);
      check.due(x.count(4), rival);
      check.due(x.stakeOf(1, 0), rival);
    }
  }

  private static void theAnswerOfStake() {
    check.sentence("Promise 6", "Returns how many stakes there are then");
    Parlour x = check.open();
    for (int i = 1; i <= 10; i++) {
      check.due(x.stake(0, 0, 1), i);
      x.pass(); // those of all rivals
    }
    x.undo();
    x.undo();
    check.due(x.stake(0, 0, 1), 10);
  }

  private static void fullOrPoor() {
    check.sentence("Promise 6", "FULL if there are 10, or the purse has not as much");
    Parlour ten = check.open();
    for (int i = 0; i < 10; i++) { ten.stake(0, 0, 1); }
    check.due(ten.rival(0, 0), 90);
    check.due(ten.stake(0, 0, 1), FULL); // with enough in the purse
    Parlour poor = check.open();
    poor.stake(0, 0, 50);
    check.due(poor.stake(0, 0, 51), FULL);
    check.due(poor.stake(0, 0, 99), FULL);
    check.due(poor.stake(0, 0, 50), 2); // just as much
    check.due(poor.stake(0, 0, 1), FULL);
    poor.pass();
    check.due(poor.stake(0, 0, 99), 3); // another purse
    check.due(poor.stake(0, 0, 2), FULL);
    check.due(poor.stake(0, 0, 1), 4);
  }

  private static void stakeIsAnAct() {
    check.sentence("Promise 6", "This is an act.");
    Parlour x = check.open();
    x.stake(1, 1, 10);
    String before = x.state();
    x.stake(0, 0, 90);
    check.due(x.count(13), 2);
    check.due(x.undo(), 1);
    check.due("undone", x.state(), before);
    check.due(x.undo(), 0);
    check.due(x.count(6), 0);
    check.due(x.rival(0, 0), 100);
    check.due(x.undo(), NONE);
  }
}
