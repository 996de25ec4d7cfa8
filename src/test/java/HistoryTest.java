/** Promises 9 to 13: type, clearText, undo, keep, restore. */
public final class HistoryTest {
  private static final Check check = new Check("HistoryTest");

  public static void main(String[] args) {
    types();
    clears();
    undoes();
    undoRestoresAll();
    undoRestoresStakesThatWereLaidOver();
    keeps();
    restores();
    snapshotHoldsAll();
    actsAndOthers();
    check.end();
  }

  private static void types() {
    check.promise(9);
    SquareStakes x = new SquareStakes();
    char[] any = {'1', 'x', ' ', '\0', '\n', (char) 255, (char) 256, (char) 0xd800, (char) 0xffff};
    for (int i = 0; i < any.length; i++) { check.due("type(" + (int) any[i] + ")", x.type(any[i]), i + 1); }
    for (int i = any.length; i < 60; i++) { check.due("type " + i, x.type('7'), i + 1); }
    check.due("a sixty-first", x.type('7'), -3);
    check.due("a sixty-second", x.type('8'), -3);
    check.due("length", x.count(14), 60);
    check.due("typing is no act", x.count(13), 0);
    check.due("fault", x.read(), -101);
    SquareStakes order = new SquareStakes();
    Check.type(order, "12345678");
    check.due("behind the text", order.type('9'), 9);
    check.due("read()", order.read(), 24);
    SquareStakes last = new SquareStakes();
    Check.type(last, "abcdefghijklmnop");
    for (int i = 16; i < 60; i++) { last.type('1'); }
    last.type('2');
    check.due("read() of a full one", last.read(), -116);
  }

  private static void clears() {
    check.promise(10);
    SquareStakes x = new SquareStakes();
    check.due("clearText() of none", x.clearText(), 0);
    x.type('1');
    x.type('2');
    check.due("clearText()", x.clearText(), 2);
    check.due("length", x.count(14), 0);
    check.due("clearText() again", x.clearText(), 0);
    check.due("clearing is no act", x.count(13), 0);
    check.due("read() of none", x.read(), -100);
    check.due("type behind", x.type('3'), 1);
    for (int i = 1; i < 60; i++) { x.type('3'); }
    check.due("clearText() of all", x.clearText(), 60);
    check.due("room again", x.type('3'), 1);
  }

  private static void undoes() {
    check.promise(11);
    SquareStakes x = new SquareStakes();
    check.due("undo() of none", x.undo(), -5);
    x.pass();
    check.due("undo()", x.undo(), 0);
    check.due("turn", x.count(4), 0);
    check.due("undo() again", x.undo(), -5);
    for (int i = 0; i < 7; i++) {
      x.swap(0, 1);
      check.due("history", x.count(13), Math.min(i + 1, 4));
    }
    for (int left = 3; left >= 0; left--) {
      check.due("undo()", x.undo(), left);
      check.due("swaps", x.count(8), 3 + left);
      check.due("history", x.count(13), left);
    }
    check.due("undo() beyond", x.undo(), -5);
    check.due("swaps beyond", x.count(8), 3);
    x.pass();
    x.pass();
    check.due("undo() of two", x.undo(), 1);
    x.set(0, 8);
    check.due("undo() of the later", x.undo(), 1);
    check.due("setting", x.count(10), 3);
    check.due("undo() of the first", x.undo(), 0);
    check.due("turn then", x.count(4), 0);
  }

  private static void undoRestoresAll() {
    check.promise(11);
    SquareStakes x = rich();
    String before = Check.stateOf(x);
    ruin(x);
    Check.type(x, "xyz");
    for (int left = 3; left >= 0; left--) { check.due("undo()", x.undo(), left); }
    check.due("the state", Check.stateOf(x), before);
    check.due("the text stays", x.count(14), 3);
  }

  /** A state in which next to everything is other than in a new object. */
  private static SquareStakes rich() {
    SquareStakes x = Check.squareOf("492357816");
    x.swap(0, 1);
    x.swap(0, 1);
    x.set(0, 7);
    x.set(1, 3);
    x.set(2, 4);
    x.freeze(3, 5);
    x.stake(0, 0, 10);
    x.stake(3, 1, 20);
    x.swap(4, 8);
    x.stake(7, 2, 30);
    return x;
  }

  /** Four acts that change all that rich() made. */
  private static void ruin(SquareStakes x) {
    x.lay(4, 99);
    x.set(1, 9);
    x.freeze(15, 2);
    x.swap(0, 5);
  }

  private static void undoRestoresStakesThatWereLaidOver() {
    SquareStakes x = new SquareStakes();
    for (int i = 0; i < 10; i++) { x.stake(i % 8, i % 3, i + 1); }
    String before = Check.stateOf(x);
    x.keep();
    layOver(x);
    check.promise(11);
    x.undo();
    x.undo();
    x.undo();
    check.due("the stakes", Check.stateOf(x), before);
    layOver(x);
    check.promise(13);
    x.restore();
    check.due("the stakes of the snapshot", Check.stateOf(x), before);
  }

  private static void layOver(SquareStakes x) {
    x.lay(4, 7);
    x.stake(9, 2, 15);
    x.stake(8, 1, 16);
  }

  private static void keeps() {
    check.promise(12);
    SquareStakes x = new SquareStakes();
    check.due("keep()", x.keep(), 24);
    check.due("keeping is no act", x.count(13), 0);
    check.due("undo() of none", x.undo(), -5);
    check.due("lay(3, 0)", x.lay(3, 0), 17);
    check.due("keep() then", x.keep(), 17);
    x.lay(4, 77);
    check.due("restore() of the later", x.restore(), 17);
    check.due("numbers", Check.numbers(x), "2 5 4 9 6 1 7 3 8");
  }

  private static void restores() {
    check.promise(13);
    SquareStakes x = new SquareStakes();
    x.pass();
    check.due("restore() of none", x.restore(), -5);
    check.due("none is no act", x.count(13), 1);
    check.due("none changes nothing", x.count(4), 1);
    x.keep();
    x.undo();
    x.type('1');
    check.due("restore()", x.restore(), 24);
    check.due("turn", x.count(4), 1);
    check.due("restoring is an act", x.count(13), 1);
    check.due("the text stays", x.count(14), 1);
    x.lay(4, 5);
    check.due("restore() again", x.restore(), 24);
    check.due("side", x.count(0), 3);
    check.due("history", x.count(13), 3);
    check.due("restore() once more", x.restore(), 24);
    check.due("restore() a last time", x.restore(), 24);
    check.due("history is full", x.count(13), 4);
    x.undo();
    x.undo();
    check.due("undo()", x.undo(), 1);
    check.due("undone to four", x.count(0), 4);
    check.due("the snapshot is no state", x.restore(), 24);
  }

  private static void snapshotHoldsAll() {
    check.promise(13);
    SquareStakes x = rich();
    String before = Check.stateOf(x);
    check.due("keep()", x.keep(), x.count(2));
    ruin(x);
    check.due("restore()", x.restore(), x.count(2));
    check.due("the state", Check.stateOf(x), before);
    SquareStakes apart = rich();
    apart.keep();
    apart.restore();
    apart.swap(0, 1);
    apart.stake(1, 1, 1);
    apart.freeze(5, 1);
    apart.set(1, 0);
    apart.restore();
    check.due("the snapshot stays as it was", Check.stateOf(apart), before);
  }

  private static void actsAndOthers() {
    check.promise(13);
    SquareStakes x = new SquareStakes();
    x.type('1');
    x.clearText();
    x.keep();
    x.cell(0, 0);
    x.line(0, 0);
    x.rival(0, 0);
    x.stakeOf(0, 0);
    x.odds(0);
    x.would(0, 1, 2);
    x.best();
    x.count(0);
    x.meanOddsBits();
    check.due("none of these is an act", x.count(13), 0);
    x.swap(0, 0);
    x.freeze(9, 1);
    x.stake(8, 0, 1);
    x.set(0, 3);
    x.set(0, 10);
    x.lay(5, 0);
    x.read();
    x.undo();
    check.due("no error is an act", x.count(13), 0);
    x.stake(0, 0, 1);
    x.freeze(0, 1);
    x.set(0, 1);
    check.due("each of these is one", x.count(13), 3);
  }
}
