/** Promises 14 to 22: what is told. */
public final class ToldTest {
  private static final int[] EXTREME = {Integer.MIN_VALUE, Integer.MIN_VALUE + 1, -1000, 1000, Integer.MAX_VALUE - 1, Integer.MAX_VALUE};
  private static final Check check = new Check("ToldTest");

  public static void main(String[] args) {
    cells();
    lines();
    rivals();
    stakes();
    odds();
    would();
    wouldPay();
    wouldErrors();
    best();
    bestByHand();
    counts();
    meanOdds();
    check.end();
  }

  private static void cells() {
    check.promise(14);
    SquareStakes x = new SquareStakes();
    int[] through = {3, 2, 3, 2, 4, 2, 3, 2, 3};
    int[] magic = {1, 1, 1, 1, 4, 1, 1, 1, 1};
    for (int cell = 0; cell < 9; cell++) {
      check.due("cell(" + cell + ", 0)", x.cell(cell, 0), cell + 1);
      check.due("cell(" + cell + ", 1)", x.cell(cell, 1), 0);
      check.due("cell(" + cell + ", 2)", x.cell(cell, 2), through[cell]);
      check.due("cell(" + cell + ", 3)", x.cell(cell, 3), magic[cell]);
    }
    x.freeze(7, 4);
    check.due("cell(7, 1)", x.cell(7, 1), 4);
    int[] unknown = {-1, 9, 15, 16, Integer.MIN_VALUE, Integer.MAX_VALUE};
    for (int cell : unknown) {
      check.due("cell(" + cell + ", 0)", x.cell(cell, 0), -1);
      check.due("cell(" + cell + ", 4)", x.cell(cell, 4), -1);
    }
    check.due("cell(0, -1)", x.cell(0, -1), -2);
    check.due("cell(8, 4)", x.cell(8, 4), -2);
    for (int what : EXTREME) { check.due("cell(0, " + what + ")", x.cell(0, what), -2); }
    SquareStakes four = Check.squareOf("pcbmejkhifgldona");
    int[] throughFour = {3, 2, 2, 3, 2, 3, 3, 2, 2, 3, 3, 2, 3, 2, 2, 3};
    for (int cell = 0; cell < 16; cell++) {
      check.due("cell(" + cell + ", 2) of four", four.cell(cell, 2), throughFour[cell]);
      check.due("cell(" + cell + ", 3) of four", four.cell(cell, 3), throughFour[cell]);
    }
    check.due("cell(16, 0) of four", four.cell(16, 0), -1);
  }

  private static void lines() {
    check.promise(15);
    SquareStakes x = new SquareStakes();
    int[] sums = {6, 15, 24, 12, 15, 18, 15, 15};
    for (int line = 0; line < 8; line++) {
      check.due("line(" + line + ", 0)", x.line(line, 0), sums[line]);
      check.due("line(" + line + ", 1)", x.line(line, 1), sums[line] + 85);
      check.due("line(" + line + ", 2)", x.line(line, 2), sums[line] == 15 ? 1 : 0);
      check.due("line(" + line + ", 3)", x.line(line, 3), 0);
      check.due("line(" + line + ", 4)", x.line(line, 4), 0);
    }
    x.stake(7, 0, 10);
    x.stake(2, 1, 20);
    x.pass();
    x.stake(7, 2, 5);
    check.due("line(7, 3)", x.line(7, 3), 2);
    check.due("line(7, 4)", x.line(7, 4), 15);
    check.due("line(2, 3)", x.line(2, 3), 1);
    check.due("line(2, 4)", x.line(2, 4), 20);
    check.due("line(0, 3)", x.line(0, 3), 0);
    int[] unknown = {-1, 8, 9, 10, Integer.MIN_VALUE, Integer.MAX_VALUE};
    for (int line : unknown) {
      check.due("line(" + line + ", 0)", x.line(line, 0), -1);
      check.due("line(" + line + ", 5)", x.line(line, 5), -1);
    }
    check.due("line(0, -1)", x.line(0, -1), -2);
    check.due("line(7, 5)", x.line(7, 5), -2);
    for (int what : EXTREME) { check.due("line(0, " + what + ")", x.line(0, what), -2); }
    // two diagonals that differ: 2 5 4 / 9 6 1 / 7 3 8
    x.lay(3, 0);
    int[] laid = {11, 16, 18, 18, 14, 13, 16, 17};
    for (int line = 0; line < 8; line++) { check.due("line(" + line + ", 0) laid", x.line(line, 0), laid[line]); }
    SquareStakes four = Check.squareOf("abcdefghijklmnpo");
    int[] sumsFour = {10, 26, 42, 58, 28, 32, 37, 39, 33, 34};
    for (int line = 0; line < 10; line++) {
      check.due("line(" + line + ", 0) of four", four.line(line, 0), sumsFour[line]);
      check.due("line(" + line + ", 1) of four", four.line(line, 1), sumsFour[line] + 66);
    }
    check.due("line(10, 0) of four", four.line(10, 0), -1);
  }

  private static void rivals() {
    check.promise(16);
    SquareStakes x = new SquareStakes();
    x.stake(0, 0, 10);
    x.stake(6, 0, 20);
    x.stake(7, 0, 7);
    x.pass();
    x.stake(1, 0, 30);
    int[][] due = {{63, 0, 3, 37, 27}, {70, 0, 1, 30, 30}, {100, 0, 0, 0, 0}};
    for (int rival = 0; rival < 3; rival++) {
      for (int what = 0; what < 5; what++) { check.due("rival(" + rival + ", " + what + ")", x.rival(rival, what), due[rival][what]); }
    }
    int[] unknown = {-1, 3, 4, Integer.MIN_VALUE, Integer.MAX_VALUE};
    for (int rival : unknown) {
      check.due("rival(" + rival + ", 0)", x.rival(rival, 0), -1);
      check.due("rival(" + rival + ", 5)", x.rival(rival, 5), -1);
    }
    check.due("rival(0, -1)", x.rival(0, -1), -2);
    check.due("rival(2, 5)", x.rival(2, 5), -2);
    for (int what : EXTREME) { check.due("rival(0, " + what + ")", x.rival(0, what), -2); }
    SquareStakes won = Check.squareOf("492357816");
    won.swap(0, 1);
    won.swap(0, 1);
    check.due("rival(1, 1)", won.rival(1, 1), 1);
    check.due("rival(0, 1)", won.rival(0, 1), 0);
    // each payout is rounded down for itself: 1.625f * 1 twice, and 2.25f * 3
    won.swap(0, 1);
    won.stake(3, 2, 1);
    won.stake(3, 2, 1);
    won.stake(3, 0, 3);
    check.due("rival(0, 4) ahead", won.rival(0, 4), 0);
    won.set(0, 9);
    won.swap(0, 1);
    check.due("rival(0, 4)", won.rival(0, 4), 1 + 1 + 6);
  }

  private static void stakes() {
    check.promise(17);
    SquareStakes x = new SquareStakes();
    x.pass();
    x.stake(0, 0, 7); // 3.25
    x.pass();
    x.stake(3, 1, 99); // 1.5
    x.stake(5, 2, 1); // 1.5
    int[][] due = {{1, 0, 0, 7, 6, 0, 22}, {2, 3, 1, 99, 12, 0, 148}, {2, 5, 2, 1, 18, 0, 1}};
    for (int stake = 0; stake < 3; stake++) {
      for (int what = 0; what < 7; what++) { check.due("stakeOf(" + stake + ", " + what + ")", x.stakeOf(stake, what), due[stake][what]); }
    }
    int[] unknown = {-1, 3, 4, 9, 10, Integer.MIN_VALUE, Integer.MAX_VALUE};
    for (int stake : unknown) {
      check.due("stakeOf(" + stake + ", 0)", x.stakeOf(stake, 0), -1);
      check.due("stakeOf(" + stake + ", 7)", x.stakeOf(stake, 7), -1);
    }
    check.due("stakeOf(0, -1)", x.stakeOf(0, -1), -2);
    check.due("stakeOf(2, 7)", x.stakeOf(2, 7), -2);
    for (int what : EXTREME) { check.due("stakeOf(0, " + what + ")", x.stakeOf(0, what), -2); }
    x.swap(0, 1); // 2 1 3 / 4 5 6 / 7 8 9: rows 6 15 24, columns 13 14 18, diagonals 16 15
    check.due("purse 2 could not pay", x.count(8), 0);
    x.pass();
    x.swap(0, 8); // 9 2 3 / 4 5 6 / 7 8 1
    check.due("a magic line is still missed", x.stakeOf(0, 5), 0);
    check.due("the column is greater", x.stakeOf(1, 5), 1);
    check.due("the last column is less", x.stakeOf(2, 5), 1);
    check.due("the kept sum", x.stakeOf(1, 4), 12);
    check.due("what it would pay", x.stakeOf(1, 6), 148);
    check.due("stakeOf(0, 0) of none", new SquareStakes().stakeOf(0, 0), -1);
    SquareStakes right = new SquareStakes();
    right.stake(6, 0, 1);
    check.due("a magic line is right", right.stakeOf(0, 5), 1);
  }

  private static void odds() {
    check.promise(18);
    SquareStakes x = new SquareStakes();
    check.due("odds(0) of none", x.odds(0), -1.0f);
    x.stake(0, 0, 1);
    x.stake(3, 0, 1);
    x.stake(4, 0, 1);
    x.stake(4, 1, 1);
    check.due("odds(0)", x.odds(0), 3.25f);
    check.due("odds(1)", x.odds(1), 1.75f);
    check.due("odds(2)", x.odds(2), 1.0f);
    check.due("odds(3)", x.odds(3), 1.5f);
    int[] unknown = {-1, 4, 9, 10, Integer.MIN_VALUE, Integer.MAX_VALUE};
    for (int stake : unknown) { check.due("odds(" + stake + ")", x.odds(stake), -1.0f); }
    SquareStakes four = Check.squareOf("abcdefghijklmnop");
    four.stake(0, 0, 1);
    four.stake(3, 0, 1);
    four.stake(0, 2, 1);
    check.due("odds(0) of four", four.odds(0), 7.0f);
    check.due("odds(1) of four", four.odds(1), 7.0f);
    check.due("odds(2) of four", four.odds(2), 1.2f);
    SquareStakes magic = Check.squareOf("pcbmejkhifgldona");
    magic.stake(0, 1, 1);
    check.due("odds in a magic square", magic.odds(0), 2.0f);
    SquareStakes none = new SquareStakes();
    none.lay(4, 77);
    none.stake(0, 1, 1);
    check.due("odds without a magic line", none.odds(0), 1.0f);
  }

  private static void would() {
    check.promise(19);
    SquareStakes x = new SquareStakes();
    x.freeze(0, 6);
    x.stake(0, 0, 99);
    String before = Check.pictureOf(x);
    // 9 2 3 / 4 5 6 / 7 8 1: rows 14 15 16, columns 20 15 10, diagonals 15 15
    check.due("would(0, 8, 0)", x.would(0, 8, 0), 12);
    check.due("would(8, 0, 0)", x.would(8, 0, 0), 12);
    check.due("would(0, 8, 1)", x.would(0, 8, 1), 4);
    check.due("would(0, 8, 2)", x.would(0, 8, 2), 0);
    // 2 1 3 / 4 5 6 / 7 8 9: rows 6 15 24, columns 13 14 18, diagonals 16 15
    check.due("would(0, 1, 0)", x.would(0, 1, 0), 25);
    check.due("would(0, 1, 1)", x.would(0, 1, 1), 2);
    check.due("nothing changed", Check.pictureOf(x), before);
  }

  private static void wouldPay() {
    check.promise(19);
    SquareStakes x = new SquareStakes();
    x.stake(0, 1, 10); // 1.5: 15
    x.stake(2, 2, 3); // 1.5: 4
    x.pass();
    x.stake(1, 0, 20); // 1.0: 20
    check.due("would(0, 8, 2)", x.would(0, 8, 2), 15 + 4 + 20);
    check.due("would(0, 1, 2)", x.would(0, 1, 2), 20);
    check.due("would(3, 6, 2)", x.would(3, 6, 2), 4);
    check.due("would(0, 3, 2)", x.would(0, 3, 2), 15);
    check.due("stakes stay", x.count(6), 3);
    check.due("history", x.count(13), 4);
    check.due("without stakes", new SquareStakes().would(0, 1, 2), 0);
  }

  private static void wouldErrors() {
    check.promise(19);
    SquareStakes x = new SquareStakes();
    int[][] unknown = {{-1, 0}, {0, -1}, {9, 0}, {0, 9}, {9, 9}, {-1, -1}, {Integer.MAX_VALUE, 0}, {0, Integer.MIN_VALUE}};
    for (int[] pair : unknown) {
      check.due("would(" + pair[0] + ", " + pair[1] + ", 0)", x.would(pair[0], pair[1], 0), -1);
      check.due("would(" + pair[0] + ", " + pair[1] + ", 3)", x.would(pair[0], pair[1], 3), -1);
    }
    for (int what = -1; what <= 3; what++) { check.due("would(2, 2, " + what + ")", x.would(2, 2, what), -2); }
    check.due("would(0, 1, -1)", x.would(0, 1, -1), -2);
    check.due("would(0, 1, 3)", x.would(0, 1, 3), -2);
    for (int what : EXTREME) { check.due("would(0, 1, " + what + ")", x.would(0, 1, what), -2); }
    SquareStakes four = Check.squareOf("abcdefghijklmnop");
    check.due("would(16, 0, 0) of four", four.would(16, 0, 0), -1);
    check.due("would(0, 15, 0) of four", four.would(0, 15, 0) > 0 ? 1 : 0, 1);
  }

  private static void best() {
    check.promise(20);
    for (int seed = 0; seed < 10000; seed += 499) {
      for (int side = 3; side <= 4; side++) {
        SquareStakes x = new SquareStakes();
        x.lay(side, seed);
        x.set(2, 0);
        x.freeze(seed % 9, 6);
        x.freeze((seed + 4) % 9, 6);
        x.freeze((seed + 8) % 9, 6);
        check.due("best() of " + side + ", " + seed, x.best(), bestOf(x, side * side));
      }
    }
  }

  private static int bestOf(SquareStakes x, int cells) {
    int found = -5;
    int least = Integer.MAX_VALUE;
    for (int one = 0; one < cells; one++) {
      for (int other = one + 1; other < cells; other++) {
        if (x.cell(one, 1) == 0 && x.cell(other, 1) == 0 && x.would(one, other, 0) < least) {
          least = x.would(one, other, 0);
          found = 100 * one + other;
        }
      }
    }
    return found;
  }

  private static void bestByHand() {
    check.promise(20);
    SquareStakes x = new SquareStakes();
    check.due("best()", x.best(), 8);
    check.due("telling is no act", x.count(13), 0);
    SquareStakes magic = Check.squareOf("492357816");
    magic.swap(5, 8);
    check.due("the way back", magic.best(), 508);
    magic.stake(0, 0, 99);
    check.due("purses do not matter", magic.best(), 508);
    magic.freeze(8, 1);
    magic.pass();
    magic.set(2, 0);
    magic.freeze(8, 1);
    check.due("a frozen cell is no choice", magic.best() == 508 ? 1 : 0, 0);
    SquareStakes few = new SquareStakes();
    few.set(2, 0);
    for (int cell = 0; cell < 7; cell++) { few.freeze(cell, 6); }
    check.due("two are free", few.best(), 708);
    few.freeze(7, 1);
    check.due("one is free", few.best(), -5);
    few.freeze(8, 1);
    check.due("none is free", few.best(), -5);
    SquareStakes four = new SquareStakes();
    four.lay(4, 77);
    check.due("best() of four", four.best(), 311);
    four.set(2, 0);
    for (int cell = 0; cell < 14; cell++) { four.freeze(cell, 6); }
    check.due("the last two of four", four.best(), 1415);
  }

  private static void counts() {
    check.promise(21);
    SquareStakes x = Check.squareOf("pcbmejkhifgldona");
    x.set(0, 5);
    x.set(1, 3);
    x.set(2, 4);
    x.freeze(0, 6);
    x.freeze(1, 2);
    x.swap(2, 3);
    x.swap(2, 3);
    x.swap(4, 5);
    x.stake(0, 0, 11);
    x.stake(1, 1, 12);
    x.type('x');
    // The rival 0 won 24 + 8 + 6 by the second swap; the third one put two columns and a diagonal 5 off.
    int[] due = {4, 34, 15, 7, 2, 3, 2, 3, 3, 1, 5, 3, 4, 4, 17, 23};
    for (int what = 0; what < due.length; what++) { check.due("count(" + what + ")", x.count(what), due[what]); }
    check.due("count(-1)", x.count(-1), -2);
    check.due("count(16)", x.count(16), -2);
    for (int what : EXTREME) { check.due("count(" + what + ")", x.count(what), -2); }
    check.due("magic number of three", new SquareStakes().count(1), 15);
  }

  private static void meanOdds() {
    check.promise(22);
    SquareStakes x = new SquareStakes();
    check.due("without stakes", x.meanOddsBits(), 0);
    x.stake(6, 0, 1);
    check.due("1.0f", x.meanOddsBits(), 0x3f800000);
    x.stake(0, 0, 1);
    check.due("2.125f", x.meanOddsBits(), 0x40080000);
    x.stake(0, 0, 1);
    check.due("2.5f", x.meanOddsBits(), 0x40200000);
    x.stake(0, 1, 1);
    x.stake(0, 1, 1);
    x.stake(0, 1, 1);
    check.due("2.0f", x.meanOddsBits(), 0x40000000);
    SquareStakes four = Check.squareOf("abcdefghijklmnop");
    four.stake(0, 0, 1);
    check.due("7.0f", four.meanOddsBits(), 0x40e00000);
    for (int seed = 0; seed < 10000; seed += 111) { meanAsTold(seed); }
  }

  private static void meanAsTold(int seed) {
    SquareStakes x = new SquareStakes();
    for (int i = 0; i < 10; i++) {
      if (i % 4 == 0) {
        x.swap(i, 8 - (seed + i) % 8);
        x.set(0, 9);
      }
      x.stake((seed + i) % 8, (seed / 8 + i) % 3, 1);
      if (i % 3 == 1) { x.swap((seed + i) % 9, (seed + 2 * i + 1) % 9); }
      float sum = 0.0f;
      for (int stake = 0; stake < x.count(6); stake++) { sum += x.odds(stake); }
      if (x.count(6) > 0) { check.due("mean of seed " + seed, x.meanOddsBits(), Float.floatToIntBits(sum / (float) x.count(6))); }
    }
  }
}
