/** Promises 4 to 8: swap, freeze, stake, pass, set. */
public final class TurnsTest {
  private static final Check check = new Check("TurnsTest");

  public static void main(String[] args) {
    swaps();
    swapErrors();
    swapPrice();
    settlement();
    settlementBehindFewerSwaps();
    payoutsAreRoundedDown();
    winning();
    winningBehindSettlement();
    freezes();
    freezeErrors();
    thawing();
    everyCellThaws();
    removedStakesAreGone();
    stakes();
    stakeErrors();
    oddsAreFixed();
    passes();
    settings();
    settingErrors();
    check.end();
  }

  private static void swaps() {
    check.promise(4);
    SquareStakes x = new SquareStakes();
    // 8 2 3 / 4 5 6 / 7 1 9: the middle row, and the diagonal 3 5 7
    check.due("swap(0, 7)", x.swap(0, 7), 2);
    check.due("numbers", Check.numbers(x), "8 2 3 4 5 6 7 1 9");
    check.due("turn", x.count(4), 1);
    check.due("purse", x.rival(0, 0), 99);
    check.due("purse of another", x.rival(1, 0), 100);
    check.due("pot", x.count(5), 1);
    check.due("round", x.count(7), 1);
    check.due("all", x.count(8), 1);
    check.due("history", x.count(13), 1);
    check.due("swap(7, 0)", x.swap(7, 0), 4);
    check.due("numbers then", Check.numbers(x), "1 2 3 4 5 6 7 8 9");
    check.due("turn then", x.count(4), 2);
    check.due("swap(8, 0)", x.swap(8, 0), 4);
    check.due("turn comes round", x.count(4), 0);
    check.due("round is over", x.count(7), 0);
    check.due("all then", x.count(8), 3);
    check.due("pot then", x.count(5), 3);
    check.due("purse 2", x.rival(2, 0), 99);
    x.swap(0, 8);
    check.due("round then", x.count(7), 1);
    check.due("all in the end", x.count(8), 4);
    check.due("undo()", x.undo(), 3);
    check.due("undone", x.count(8), 3);
    SquareStakes four = Check.squareOf("abcdefghijklmnop");
    check.due("swap(15, 12)", four.swap(15, 12), 0);
    check.due("numbers of four", Check.numbers(four), "1 2 3 4 5 6 7 8 9 10 11 12 16 14 15 13");
  }

  private static void swapErrors() {
    check.promise(4);
    SquareStakes x = new SquareStakes();
    x.freeze(4, 6);
    x.set(1, 0);
    x.set(2, 0);
    x.freeze(5, 1);
    x.stake(0, 0, 99);
    x.stake(0, 0, 1);
    x.set(1, 1);
    String before = Check.pictureOf(x);
    int[][] unknown = {{-1, 0}, {0, -1}, {9, 0}, {0, 9}, {9, 9}, {-1, -1}, {15, 0}, {4, 9}, {9, 4}, {Integer.MAX_VALUE, 0},
      {0, Integer.MIN_VALUE}, {Integer.MIN_VALUE, Integer.MAX_VALUE}};
    for (int[] pair : unknown) { check.due("swap(" + pair[0] + ", " + pair[1] + ")", x.swap(pair[0], pair[1]), -1); }
    check.due("swap(0, 0)", x.swap(0, 0), -2);
    check.due("swap(8, 8)", x.swap(8, 8), -2);
    check.due("swap(4, 4)", x.swap(4, 4), -2);
    check.due("swap(4, 0)", x.swap(4, 0), -4);
    check.due("swap(0, 4)", x.swap(0, 4), -4);
    check.due("swap(4, 5)", x.swap(4, 5), -4);
    check.due("swap(0, 1)", x.swap(0, 1), -3);
    check.due("nothing changed", Check.pictureOf(x), before);
    SquareStakes four = Check.squareOf("abcdefghijklmnop");
    check.due("swap(16, 0) of four", four.swap(16, 0), -1);
    check.due("swap(0, 16) of four", four.swap(0, 16), -1);
    check.due("swap(9, 15) of four", four.swap(9, 15) >= 0 ? 1 : 0, 1);
  }

  private static void swapPrice() {
    check.promise(4);
    SquareStakes x = new SquareStakes();
    x.set(1, 9);
    x.stake(0, 0, 91);
    check.due("a purse of 9 - 0", x.rival(0, 0), 9);
    check.due("swap with just as much", x.swap(0, 1) >= 0 ? 1 : 0, 1);
    check.due("purse", x.rival(0, 0), 0);
    check.due("pot", x.count(5), 9);
    SquareStakes poor = new SquareStakes();
    poor.set(1, 9);
    poor.stake(0, 0, 92);
    check.due("swap with one too few", poor.swap(0, 1), -3);
    poor.set(1, 0);
    poor.stake(0, 0, 8);
    check.due("an empty purse", poor.rival(0, 0), 0);
    check.due("swap for nothing", poor.swap(0, 1) >= 0 ? 1 : 0, 1);
    check.due("pot for nothing", poor.count(5), 0);
  }

  private static void settlement() {
    check.promise(4);
    SquareStakes x = new SquareStakes();
    // 1 2 3 / 4 5 6 / 7 8 9
    x.stake(0, 0, 10); // odds 1 + 9/4 = 3.25
    x.stake(0, 1, 20); // 1 + 4/8 = 1.5
    x.stake(0, 2, 30);
    check.due("purse 0", x.rival(0, 0), 40);
    x.swap(0, 7); // 8 2 3 / 4 5 6 / 7 1 9
    check.due("no settlement ahead of time", x.count(6), 3);
    check.due("pot ahead", x.count(5), 1);
    x.stake(3, 1, 8); // the first column, 19; two lines are magic: 1.25
    x.stake(3, 2, 9);
    x.swap(1, 2); // 8 3 2 / 4 5 6 / 7 1 9
    x.stake(0, 2, 50); // 13; the middle row alone is magic: 1.125
    x.swap(3, 4); // 8 3 2 / 5 4 6 / 7 1 9
    check.due("stakes behind", x.count(6), 0);
    check.due("round behind", x.count(7), 0);
    check.due("table behind", x.count(15), 0);
    check.due("purse 0: the sum rose", x.rival(0, 0), 40 - 1 + 30);
    check.due("purse 1: the column rose", x.rival(1, 0), 100 - 17 - 1 + 10);
    check.due("purse 2: the sum is as it was", x.rival(2, 0), 100 - 50 - 1);
    check.due("pot behind", x.count(5), 3 + 10 + 30 + 9 + 50);
    check.due("mean behind", x.meanOddsBits(), 0);
    check.due("odds behind", x.odds(0), -1.0f);
    SquareStakes equal = new SquareStakes();
    equal.set(0, 1);
    equal.stake(0, 1, 10);
    equal.stake(0, 2, 20);
    equal.stake(6, 0, 30);
    equal.swap(1, 2);
    check.due("an equal sum is neither", equal.rival(0, 0), 40 - 1 + 30);
    check.due("pot of these", equal.count(5), 31);
  }

  private static void settlementBehindFewerSwaps() {
    check.promise(4);
    SquareStakes x = new SquareStakes();
    x.set(0, 9);
    x.stake(1, 0, 10);
    for (int i = 0; i < 4; i++) { x.swap(0, 1); }
    check.due("round", x.count(7), 4);
    x.set(0, 2);
    check.due("no settlement by set", x.count(6), 1);
    check.due("round stays", x.count(7), 4);
    x.swap(0, 1);
    check.due("settled", x.count(6), 0);
    check.due("round behind", x.count(7), 0);
    check.due("purse", x.rival(0, 0), 100 - 10 - 2 + 10);
    SquareStakes longest = new SquareStakes();
    longest.set(0, 9);
    longest.stake(0, 0, 1);
    for (int i = 0; i < 8; i++) { longest.swap(0, 1); }
    check.due("eight of nine", longest.count(6), 1);
    check.due("round of eight", longest.count(7), 8);
    longest.swap(0, 1);
    check.due("nine of nine", longest.count(6), 0);
    check.due("round of nine", longest.count(7), 0);
    check.due("all nine", longest.count(8), 9);
  }

  private static void payoutsAreRoundedDown() {
    check.promise(4);
    SquareStakes x = Check.squareOf("492357816");
    x.set(0, 1);
    x.set(1, 0);
    x.swap(0, 1);
    // 9 4 2 / 3 5 7 / 8 1 6: five of eight lines are magic
    x.stake(3, 2, 3); // 1.625 * 3 = 4.875
    check.due("odds", x.odds(0), 1.625f);
    check.due("would pay", x.stakeOf(0, 6), 4);
    x.swap(0, 1);
    check.due("purse", x.rival(1, 0), 97 + 4);
    check.due("the pot went to nobody else", x.count(5), 0);
    SquareStakes four = Check.squareOf("abcdefghijklmnop");
    four.set(0, 1);
    four.stake(0, 1, 99); // 1.2f * 99 = 118.8
    check.due("odds of four", four.odds(0), 1.0f + 2.0f / 10.0f);
    four.swap(0, 15);
    check.due("purse of four", four.rival(0, 0), 1 - 1 + 118);
  }

  private static void winning() {
    check.promise(4);
    SquareStakes x = Check.squareOf("492357816");
    check.due("swap off", x.swap(0, 1), 5);
    check.due("nothing won by it", x.rival(0, 1), 0);
    x.freeze(8, 2);
    check.due("pot ahead", x.count(5), 5);
    x.set(1, 4);
    check.due("swap on", x.swap(1, 0), 8);
    check.due("squares won", x.rival(2, 1), 1);
    check.due("purse with its own price", x.rival(2, 0), 100 - 4 + 9);
    check.due("pot", x.count(5), 0);
    check.due("turn", x.count(4), 0);
    check.due("others won nothing", x.rival(0, 1) + x.rival(1, 1), 0);
    check.due("undo()", x.undo(), 3);
    check.due("squares won, undone", x.rival(2, 1), 0);
    check.due("pot, undone", x.count(5), 5);
    SquareStakes four = Check.squareOf("pcbmejkhifgldona");
    check.due("four off", four.swap(0, 15) < 10 ? 1 : 0, 1);
    check.due("four on", four.swap(0, 15), 10);
    check.due("four won", four.rival(1, 1), 1);
    check.due("purse of four", four.rival(1, 0), 101);
    four.swap(0, 15);
    four.swap(0, 15);
    check.due("four won by another", four.rival(0, 1), 1);
    check.due("and still by the first", four.rival(1, 1), 1);
  }

  private static void winningBehindSettlement() {
    check.promise(4);
    SquareStakes x = Check.squareOf("492357816");
    x.set(0, 2);
    x.swap(0, 1); // 9 4 2 / 3 5 7 / 8 1 6
    x.stake(3, 1, 40); // wrong: the column falls from 20 to 15
    x.stake(3, 0, 10); // right: 1 + 5/4 = 2.25
    check.due("purse ahead", x.rival(1, 0), 50);
    x.swap(0, 1);
    check.due("stakes behind", x.count(6), 0);
    check.due("pot behind", x.count(5), 0);
    check.due("purse behind", x.rival(1, 0), 50 - 1 + 22 + 1 + 40 + 1);
    check.due("won", x.rival(1, 1), 1);
    SquareStakes other = Check.squareOf("492357816");
    other.set(0, 9);
    other.swap(0, 1);
    other.stake(3, 1, 40);
    other.swap(0, 1);
    check.due("stakes stay without a settlement", other.count(6), 1);
    check.due("table stays", other.count(15), 40);
    check.due("purse without a settlement", other.rival(1, 0), 60 - 1 + 2);
    check.due("round goes on", other.count(7), 2);
  }

  private static void freezes() {
    check.promise(5);
    SquareStakes x = new SquareStakes();
    check.due("freeze(8, 6)", x.freeze(8, 6), 1);
    check.due("purse", x.rival(0, 0), 88);
    check.due("pot", x.count(5), 12);
    check.due("turn", x.count(4), 1);
    check.due("left", x.cell(8, 1), 6);
    check.due("no swap", x.count(7) + x.count(8), 0);
    check.due("freeze(0, 1)", x.freeze(0, 1), 2);
    check.due("left of it", x.cell(0, 1), 1);
    check.due("a freeze thaws none", x.cell(8, 1), 6);
    check.due("frozen", x.count(9), 2);
    check.due("history", x.count(13), 2);
    check.due("undo()", x.undo(), 1);
    check.due("undone", x.count(9), 1);
    check.due("turn undone", x.count(4), 1);
    x.set(2, 0);
    for (int cell = 0; cell < 8; cell++) { check.due("freeze " + cell, x.freeze(cell, 3), cell + 2); }
    check.due("all are frozen", x.count(9), 9);
    check.due("pot with nothing more", x.count(5), 12);
    check.due("no swap is best", x.best(), -5);
    SquareStakes four = Check.squareOf("abcdefghijklmnop");
    check.due("freeze(15, 1) of four", four.freeze(15, 1), 1);
  }

  private static void freezeErrors() {
    check.promise(5);
    SquareStakes x = new SquareStakes();
    x.freeze(4, 6);
    x.stake(0, 0, 89);
    String before = Check.pictureOf(x);
    int[] unknown = {-1, 9, 15, 16, Integer.MAX_VALUE, Integer.MIN_VALUE};
    for (int cell : unknown) {
      check.due("freeze(" + cell + ", 1)", x.freeze(cell, 1), -1);
      check.due("freeze(" + cell + ", 0)", x.freeze(cell, 0), -1);
    }
    int[] bad = {0, -1, 7, Integer.MAX_VALUE, Integer.MIN_VALUE};
    for (int swaps : bad) {
      check.due("freeze(0, " + swaps + ")", x.freeze(0, swaps), -2);
      check.due("freeze(4, " + swaps + ")", x.freeze(4, swaps), -2);
    }
    check.due("freeze(4, 1)", x.freeze(4, 1), -4);
    check.due("freeze(4, 6)", x.freeze(4, 6), -4);
    check.due("freeze(0, 6)", x.freeze(0, 6), -3);
    check.due("nothing changed", Check.pictureOf(x), before);
    x.stake(0, 0, 1);
    check.due("freeze(0, 5) with 10", x.freeze(0, 5), 2);
    check.due("purse", x.rival(1, 0), 0);
    SquareStakes four = Check.squareOf("abcdefghijklmnop");
    check.due("freeze(16, 1) of four", four.freeze(16, 1), -1);
  }

  private static void thawing() {
    check.promise(5);
    SquareStakes x = new SquareStakes();
    x.freeze(4, 2);
    x.freeze(5, 1);
    x.pass();
    check.due("a turn passed thaws none", x.cell(5, 1), 1);
    x.swap(0, 1);
    check.due("5 is free", x.cell(5, 1), 0);
    check.due("4 for one more", x.cell(4, 1), 1);
    check.due("frozen", x.count(9), 1);
    check.due("swap(4, 0)", x.swap(4, 0), -4);
    check.due("a refused swap thaws none", x.cell(4, 1), 1);
    x.swap(0, 5);
    check.due("4 is free", x.cell(4, 1), 0);
    check.due("swap(4, 0) then", x.swap(4, 0) >= 0 ? 1 : 0, 1);
    check.due("never below", x.cell(5, 1), 0);
    check.due("freeze again", x.freeze(5, 1), 1);
  }

  private static void everyCellThaws() {
    for (int side = 3; side <= 4; side++) {
      for (int cell = 0; cell < side * side; cell++) {
        SquareStakes x = new SquareStakes();
        check.promise(5);
        x.lay(side, 8);
        x.freeze(cell, 1);
        x.swap(cell == 1 ? 2 : 1, 3 == cell ? 4 : 3);
        check.due("left of " + cell, x.cell(cell, 1), 0);
        check.promise(2);
        x.freeze(cell, 6);
        x.lay(side, 9);
        check.due("left of " + cell + " behind lay", x.cell(cell, 1), 0);
        check.due("frozen behind lay", x.count(9), 0);
      }
    }
  }

  /** What was undone or settled must not come back in by the back door. */
  private static void removedStakesAreGone() {
    check.promise(11);
    SquareStakes x = new SquareStakes();
    x.set(0, 1);
    x.stake(1, 0, 10);
    x.pass();
    x.stake(1, 0, 20);
    x.undo();
    check.due("line(1, 3)", x.line(1, 3), 1);
    check.due("line(1, 4)", x.line(1, 4), 10);
    check.due("rival(1, 2)", x.rival(1, 2), 0);
    check.due("rival(1, 3)", x.rival(1, 3), 0);
    check.due("rival(1, 4)", x.rival(1, 4), 0);
    check.due("would(0, 1, 2)", x.would(0, 1, 2), 10);
    check.due("table", x.count(15), 10);
    check.due("mean", x.meanOddsBits(), 0x3f800000);
    check.promise(4);
    x.swap(0, 1);
    check.due("purse 0", x.rival(0, 0), 100);
    check.due("purse 1", x.rival(1, 0), 99);
    check.due("line(1, 3) behind", x.line(1, 3), 0);
    check.due("line(0, 3) behind", x.line(0, 3), 0);
    check.due("rival(0, 2) behind", x.rival(0, 2), 0);
    check.due("rival(0, 4) behind", x.rival(0, 4), 0);
    check.due("would behind", x.would(0, 1, 2), 0);
    SquareStakes wrong = new SquareStakes();
    wrong.set(0, 1);
    wrong.stake(0, 0, 30);
    wrong.undo();
    wrong.swap(0, 1);
    check.due("no amount of an undone stake in the pot", wrong.count(5), 1);
    wrong.stake(0, 0, 30);
    wrong.undo();
    wrong.lay(3, 0);
    check.due("nor by lay", wrong.count(5), 1);
    SquareStakes later = new SquareStakes();
    later.set(0, 1);
    later.stake(1, 0, 10);
    later.stake(1, 0, 20);
    later.stake(2, 0, 30);
    later.swap(0, 1);
    later.stake(1, 0, 5);
    check.due("rival(0, 4) of one stake", later.rival(0, 4), 0);
    check.due("rival(1, 4) of one stake", later.rival(1, 4), 5);
    check.due("would(0, 1, 2) of one stake", later.would(0, 1, 2), 5);
    check.due("table of one stake", later.count(15), 5);
    check.due("mean of one stake", later.meanOddsBits(), 0x3f800000);
    later.swap(0, 1);
    check.due("purse 0 of settled stakes", later.rival(0, 0), 100 - 60 - 1 + 30);
    check.due("purse 1 of one stake", later.rival(1, 0), 99);
    check.due("pot of one stake", later.count(5), 32);
  }

  private static void stakes() {
    check.promise(6);
    SquareStakes x = new SquareStakes();
    check.due("stake(7, 2, 99)", x.stake(7, 2, 99), 1);
    check.due("purse", x.rival(0, 0), 1);
    check.due("the turn stays", x.count(4), 0);
    check.due("table", x.count(15), 99);
    check.due("pot", x.count(5), 0);
    check.due("history", x.count(13), 1);
    x.pass();
    for (int i = 1; i < 10; i++) { check.due("stake " + i, x.stake(i % 8, i % 3, 1), i + 1); }
    check.due("order", x.stakeOf(4, 1) * 10 + x.stakeOf(4, 2), 41);
    check.due("rival", x.stakeOf(9, 0), 1);
    String before = Check.pictureOf(x);
    check.due("an eleventh", x.stake(0, 0, 1), -3);
    check.due("an eleventh of a line too high", x.stake(8, 0, 1), -1);
    check.due("an eleventh of a wrong kind", x.stake(0, 3, 1), -2);
    check.due("nothing changed", Check.pictureOf(x), before);
    check.due("undo()", x.undo(), 3);
    check.due("undone", x.count(6), 9);
    check.due("purse undone", x.rival(1, 0), 92);
    SquareStakes four = Check.squareOf("abcdefghijklmnop");
    check.due("stake(9, 0, 1) of four", four.stake(9, 0, 1), 1);
    check.due("stake(8, 1, 1) of four", four.stake(8, 1, 1), 2);
  }

  private static void stakeErrors() {
    check.promise(6);
    SquareStakes x = new SquareStakes();
    x.stake(0, 0, 50);
    String before = Check.pictureOf(x);
    int[] unknown = {-1, 8, 9, 10, Integer.MAX_VALUE, Integer.MIN_VALUE};
    for (int line : unknown) {
      check.due("stake(" + line + ", 0, 1)", x.stake(line, 0, 1), -1);
      check.due("stake(" + line + ", 3, 0)", x.stake(line, 3, 0), -1);
    }
    int[] badKind = {-1, 3, Integer.MAX_VALUE, Integer.MIN_VALUE};
    for (int kind : badKind) { check.due("stake(0, " + kind + ", 99)", x.stake(0, kind, 99), -2); }
    int[] badAmount = {0, -1, 100, Integer.MAX_VALUE, Integer.MIN_VALUE};
    for (int amount : badAmount) { check.due("stake(0, 0, " + amount + ")", x.stake(0, 0, amount), -2); }
    check.due("stake(0, 0, 51)", x.stake(0, 0, 51), -3);
    check.due("stake(7, 2, 99)", x.stake(7, 2, 99), -3);
    check.due("nothing changed", Check.pictureOf(x), before);
    check.due("stake(0, 0, 50)", x.stake(0, 0, 50), 2);
    check.due("purse", x.rival(0, 0), 0);
    check.due("stake(0, 0, 1) with nothing", x.stake(0, 0, 1), -3);
    SquareStakes four = Check.squareOf("abcdefghijklmnop");
    check.due("stake(10, 0, 1) of four", four.stake(10, 0, 1), -1);
  }

  private static void oddsAreFixed() {
    check.promise(6);
    SquareStakes x = new SquareStakes();
    x.stake(0, 0, 5);
    x.stake(2, 0, 5);
    x.stake(6, 0, 5);
    x.stake(0, 1, 5);
    x.stake(0, 2, 5);
    x.swap(0, 7);
    check.due("6 is 9 off", x.odds(0), 3.25f);
    check.due("24 is 9 off", x.odds(1), 3.25f);
    check.due("a magic line", x.odds(2), 1.0f);
    check.due("four of eight", x.odds(3), 1.5f);
    check.due("four of eight for less", x.odds(4), 1.5f);
    check.due("the sum is kept", x.stakeOf(0, 4), 6);
    check.due("the sum of another", x.stakeOf(1, 4), 24);
    x.stake(0, 1, 5);
    check.due("odds of now", x.odds(5), 1.25f);
    check.due("the sum of now", x.stakeOf(5, 4), 13);
  }

  private static void passes() {
    check.promise(7);
    SquareStakes x = new SquareStakes();
    check.due("pass()", x.pass(), 1);
    check.due("pass()", x.pass(), 2);
    check.due("pass()", x.pass(), 0);
    check.due("turn", x.count(4), 0);
    check.due("history", x.count(13), 3);
    check.due("no swap", x.count(7) + x.count(8), 0);
    check.due("undo()", x.undo(), 2);
    check.due("turn undone", x.count(4), 2);
  }

  private static void settings() {
    check.promise(8);
    SquareStakes x = new SquareStakes();
    check.due("set(0, 9)", x.set(0, 9), 3);
    check.due("set(0, 1)", x.set(0, 1), 9);
    check.due("set(0, 1) again", x.set(0, 1), -5);
    check.due("set(1, 0)", x.set(1, 0), 1);
    check.due("set(1, 9)", x.set(1, 9), 0);
    check.due("set(2, 0)", x.set(2, 0), 2);
    check.due("set(2, 9)", x.set(2, 9), 0);
    check.due("set(2, 9) again", x.set(2, 9), -5);
    check.due("setting 0", x.count(10), 1);
    check.due("setting 1", x.count(11), 9);
    check.due("setting 2", x.count(12), 9);
    check.due("the turn stays", x.count(4), 0);
    check.due("history", x.count(13), 4);
    check.due("undo()", x.undo(), 3);
    check.due("setting 2 undone", x.count(12), 0);
    x.freeze(0, 3);
    check.due("a freeze for nothing", x.rival(0, 0), 100);
    x.set(2, 4);
    x.freeze(1, 3);
    check.due("a freeze for 12", x.rival(1, 0), 88);
  }

  private static void settingErrors() {
    check.promise(8);
    SquareStakes x = new SquareStakes();
    x.set(1, 0);
    String before = Check.pictureOf(x);
    int[] badWhich = {-1, 3, 4, Integer.MAX_VALUE, Integer.MIN_VALUE};
    for (int which : badWhich) { check.due("set(" + which + ", 5)", x.set(which, 5), -2); }
    int[] badValue = {-1, 10, Integer.MAX_VALUE, Integer.MIN_VALUE};
    for (int which = 0; which < 3; which++) {
      for (int value : badValue) { check.due("set(" + which + ", " + value + ")", x.set(which, value), -2); }
    }
    check.due("set(0, 0)", x.set(0, 0), -2);
    check.due("set(0, 3)", x.set(0, 3), -5);
    check.due("set(1, 0)", x.set(1, 0), -5);
    check.due("set(2, 2)", x.set(2, 2), -5);
    check.due("nothing changed", Check.pictureOf(x), before);
  }
}
