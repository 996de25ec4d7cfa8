/** What README.md says of the calls: the lines of its example, and its table. */
public final class ReadmeTest {
  private static final Check check = new Check("ReadmeTest");

  public static void main(String[] args) {
    theExample();
    theTable();
    check.end();
  }

  private static void theExample() {
    check.sentence("README", "make an object, call it");
    Parlour parlour = check.open();
    check.due(parlour.lay(3, 0), 17);
    check.due("the square", parlour.numbers(), "2 5 4 9 6 1 7 3 8");
    check.due(parlour.stake(0, 0, 10), 1);
    check.due(parlour.odds(0), 2.0f);
    check.due(parlour.best(), 206);
    check.due(parlour.would(2, 6, 0), 7);
    check.due(parlour.swap(2, 6), 2);
    check.due(parlour.count(4), 1);
    check.due(parlour.freeze(4, 2), 1);
    check.due(parlour.swap(4, 0), -4);
    check.due(parlour.undo(), 3);
    check.due(parlour.cell(4, 1), 0);
    check.due(parlour.keep(), 7);
    check.due(parlour.type('0'), 1);
    check.due(parlour.read(), -100);
    check.due(parlour.clearText(), 1);
    for (char digit : "492357816".toCharArray()) { parlour.type(digit); }
    check.due(parlour.read(), 0);
    check.due(parlour.count(5), 11);
    check.due(parlour.restore(), 7);
    check.due(parlour.meanOddsBits(), 1073741824);
  }

  /** Where the table tells what can be asked for, that much can be, and no more. */
  private static void theTable() {
    check.sentence("README", "what it answers");
    Parlour x = check.open();
    x.stake(0, 0, 1);
    for (int what = -1; what <= 16; what++) {
      check.due(x.cell(0, what) >= 0 ? 1 : x.cell(0, what), told(what, 3));
      check.due(x.line(0, what) >= 0 ? 1 : x.line(0, what), told(what, 4));
      check.due(x.rival(0, what) >= 0 ? 1 : x.rival(0, what), told(what, 4));
      check.due(x.stakeOf(0, what) >= 0 ? 1 : x.stakeOf(0, what), told(what, 6));
      check.due(x.would(0, 1, what) >= 0 ? 1 : x.would(0, 1, what), told(what, 2));
      check.due(x.count(what) >= 0 ? 1 : x.count(what), told(what, 15));
      check.due(x.set(what, 0) >= 0 ? 1 : x.set(what, 0), what == 1 || what == 2 ? 1 : SquareStakes.BAD_VALUE);
    }
  }

  private static int told(int what, int most) { return what >= 0 && what <= most ? 1 : SquareStakes.BAD_VALUE; }
}
