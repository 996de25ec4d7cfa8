import java.util.function.Supplier;
import java.util.function.ToDoubleFunction;

/** The boundary cases of the sentences on errors (Terms): the order of the checks, and what refused calls change. */
public final class BoundErrorsTest {
  private static final int UNKNOWN = -1;
  private static final int BAD_VALUE = -2;
  private static final int FULL = -3;
  private static final int NOT_POSSIBLE = -4;
  private static final int NONE = -5;
  private static final Check check = new Check("BoundErrorsTest");

  public static void main(String[] args) {
    theConstants();

    orderOfSwap();
    orderOfFreeze();
    orderOfStake();
    orderOfCell();
    orderOfLine();
    orderOfRival();
    orderOfStakeOf();
    orderOfWould();
    callsOfOneErrorAlone();
    noneIsNoError();

    layChangesNothing();
    readChangesNothing();
    swapChangesNothing();
    freezeChangesNothing();
    stakeChangesNothing();
    setChangesNothing();
    typeChangesNothing();
    undoChangesNothing();
    restoreChangesNothing();
    toldChangesNothing();
    answersOfWhatIsToldChangeNothing();

    fiveHundredAndTwelveCalls();
    check.end();
  }

  private static void theConstants() {
    check.sentence("Errors", "UNKNOWN = -1 .. NONE = -5");
    check.due("UNKNOWN", SquareStakes.UNKNOWN, UNKNOWN);
    check.due("BAD_VALUE", SquareStakes.BAD_VALUE, BAD_VALUE);
    check.due("FULL", SquareStakes.FULL, FULL);
    check.due("NOT_POSSIBLE", SquareStakes.NOT_POSSIBLE, NOT_POSSIBLE);
    check.due("NONE", SquareStakes.NONE, NONE);
  }

  // ---- the order of the checks

  private static final String ORDER = "Where several errors can apply, the order of the @return line is the order of the checks.";

  /** The cells 0 and 1 are frozen, the rival 2 is at turn and has nothing, a swap costs 9, a freeze 9. */
  private static Parlour frozenAndPoor() {
    Parlour x = check.open();
    x.freeze(0, 6);
    x.freeze(1, 1);
    x.stake(0, 0, 99);
    x.stake(0, 0, 1);
    x.set(1, 9);
    x.set(2, 9);
    return x;
  }

  private static void orderOfSwap() {
    check.sentence("Errors, swap", ORDER);
    Parlour x = frozenAndPoor();
    check.due(x.swap(9, 9), UNKNOWN); // ahead of BAD_VALUE
    check.due(x.swap(-1, -1), UNKNOWN);
    check.due(x.swap(9, 0), UNKNOWN); // ahead of NOT_POSSIBLE
    check.due(x.swap(0, 9), UNKNOWN);
    check.due(x.swap(2, 9), UNKNOWN); // ahead of FULL
    check.due(x.swap(9, 2), UNKNOWN);
    check.due(x.swap(0, 0), BAD_VALUE); // ahead of NOT_POSSIBLE
    check.due(x.swap(2, 2), BAD_VALUE); // ahead of FULL
    check.due(x.swap(0, 2), NOT_POSSIBLE); // ahead of FULL
    check.due(x.swap(2, 0), NOT_POSSIBLE);
    check.due(x.swap(0, 1), NOT_POSSIBLE);
    check.due(x.swap(2, 3), FULL);
  }

  private static void orderOfFreeze() {
    check.sentence("Errors, freeze", ORDER);
    Parlour x = frozenAndPoor();
    check.due(x.freeze(9, 0), UNKNOWN); // ahead of BAD_VALUE
    check.due(x.freeze(-1, 7), UNKNOWN);
    check.due(x.freeze(9, 1), UNKNOWN); // ahead of FULL
    check.due(x.freeze(0, 0), BAD_VALUE); // ahead of NOT_POSSIBLE
    check.due(x.freeze(0, 7), BAD_VALUE);
    check.due(x.freeze(2, 7), BAD_VALUE); // ahead of FULL
    check.due(x.freeze(2, 0), BAD_VALUE);
    check.due(x.freeze(2, -1), BAD_VALUE);
    check.due(x.freeze(0, 1), NOT_POSSIBLE); // ahead of FULL
    check.due(x.freeze(1, 6), NOT_POSSIBLE);
    check.due(x.freeze(2, 1), FULL);
    // UNKNOWN ahead of NOT_POSSIBLE can be seen in no run: a cell that is not there is not frozen.
  }

  private static void orderOfStake() {
    check.sentence("Errors, stake", ORDER);
    Parlour x = frozenAndPoor();
    check.due(x.stake(8, 3, 1), UNKNOWN); // ahead of BAD_VALUE
    check.due(x.stake(-1, 0, 0), UNKNOWN);
    check.due(x.stake(8, -1, 100), UNKNOWN);
    check.due(x.stake(8, 0, 1), UNKNOWN); // ahead of FULL
    check.due(x.stake(0, 3, 1), BAD_VALUE); // ahead of FULL, as the purse is empty
    check.due(x.stake(0, -1, 99), BAD_VALUE);
    check.due(x.stake(0, 0, 100), BAD_VALUE);
    check.due(x.stake(0, 0, 0), BAD_VALUE);
    check.due(x.stake(0, 0, 1), FULL);
    Parlour ten = check.open();
    for (int i = 0; i < 10; i++) { ten.stake(0, 0, 1); }
    check.due(ten.stake(8, 0, 1), UNKNOWN); // ahead of FULL, as there are ten
    check.due(ten.stake(0, 3, 1), BAD_VALUE);
    check.due(ten.stake(0, 0, 100), BAD_VALUE);
    check.due(ten.stake(0, 0, 0), BAD_VALUE);
    check.due(ten.stake(0, 0, 1), FULL);
  }

  private static void orderOfCell() {
    check.sentence("Errors, cell", ORDER);
    Parlour x = check.open();
    check.due(x.cell(-1, -1), UNKNOWN);
    check.due(x.cell(9, 4), UNKNOWN);
    check.due(x.cell(0, 4), BAD_VALUE);
  }

  private static void orderOfLine() {
    check.sentence("Errors, line", ORDER);
    Parlour x = check.open();
    check.due(x.line(-1, -1), UNKNOWN);
    check.due(x.line(8, 5), UNKNOWN);
    check.due(x.line(0, 5), BAD_VALUE);
  }

  private static void orderOfRival() {
    check.sentence("Errors, rival", ORDER);
    Parlour x = check.open();
    check.due(x.rival(-1, -1), UNKNOWN);
    check.due(x.rival(3, 5), UNKNOWN);
    check.due(x.rival(0, 5), BAD_VALUE);
  }

  private static void orderOfStakeOf() {
    check.sentence("Errors, stakeOf", ORDER);
    Parlour x = check.open();
    check.due(x.stakeOf(0, 7), UNKNOWN); // there is none
    x.stake(0, 0, 1);
    check.due(x.stakeOf(-1, -1), UNKNOWN);
    check.due(x.stakeOf(1, 7), UNKNOWN);
    check.due(x.stakeOf(0, 7), BAD_VALUE);
  }

  private static void orderOfWould() {
    check.sentence("Errors, would", ORDER);
    Parlour x = check.open();
    check.due(x.would(9, 0, 3), UNKNOWN);
    check.due(x.would(0, 9, -1), UNKNOWN);
    check.due(x.would(9, 9, 0), UNKNOWN);
    check.due(x.would(-1, -1, 3), UNKNOWN);
    check.due(x.would(0, 0, 3), BAD_VALUE);
    check.due(x.would(0, 0, 0), BAD_VALUE);
    check.due(x.would(0, 1, 3), BAD_VALUE);
  }

  /** Of the other calls no two errors can apply at once: of set, a value that is there already is in its range. */
  private static void callsOfOneErrorAlone() {
    check.sentence("Errors, lay and set", ORDER);
    Parlour x = check.open();
    check.due(x.lay(5, -1), BAD_VALUE);
    check.due(x.set(3, 10), BAD_VALUE);
    check.due(x.set(-1, -1), BAD_VALUE);
  }

  private static void noneIsNoError() {
    check.sentence("Errors", "NONE is no error; it is returned only if no error applies.");
    Parlour x = check.open();
    check.due(x.set(3, 0), BAD_VALUE);
    check.due(x.set(3, 3), BAD_VALUE);
    check.due(x.set(-1, 1), BAD_VALUE);
    check.due(x.set(0, 3), NONE);
    check.due(x.undo(), NONE);
    check.due(x.restore(), NONE);
    x.set(2, 0);
    for (int cell = 0; cell < 8; cell++) { x.freeze(cell, 6); }
    check.due(x.best(), NONE);
  }

  // ---- what refused calls change

  private static final String NOTHING = "A call that returns an error or NONE changes nothing.";

  /** Two objects of one making: the call is refused by the one, and both are the same then, to the last state. */
  private static void changesNothing(Supplier<Parlour> made, ToDoubleFunction<Parlour> call, double answer) {
    Parlour left = made.get();
    Parlour asked = made.get();
    double got = call.applyAsDouble(asked);
    check.due("the refused call", (float) got, (float) answer);
    check.due("everything then", asked.everything(), left.everything());
  }

  private static void changesNothing(ToDoubleFunction<Parlour> call, double answer) {
    changesNothing(BoundErrorsTest::full, call, answer);
    changesNothing(BoundErrorsTest::young, call, answer);
  }

  /** A history of four states, a snapshot, a text of a square, freezes, stakes; the next swap would settle. */
  private static Parlour full() {
    Parlour x = check.open();
    x.type(Parlour.MAGIC_3);
    x.set(0, 5);
    x.keep();
    x.swap(6, 7);
    x.swap(7, 6);
    x.freeze(0, 6);
    x.stake(0, 0, 40);
    x.stake(1, 1, 30);
    x.set(0, 3);
    return x;
  }

  /** The same with a history that is not full. */
  private static Parlour young() {
    Parlour x = full();
    for (int i = 0; i < 3; i++) { x.undo(); }
    return x;
  }

  private static Parlour fullAndPoor() {
    Parlour x = full();
    x.stake(2, 2, 29);
    x.set(1, 9);
    return x;
  }

  private static Parlour ten() {
    Parlour x = full();
    for (int i = 2; i < 10; i++) { x.stake(i % 8, i % 3, 2); }
    return x;
  }

  private static Parlour sixty() {
    Parlour x = full();
    for (int i = 9; i < 60; i++) { x.type('0' + i % 10); }
    return x;
  }

  private static void layChangesNothing() {
    check.sentence("Errors, lay", NOTHING);
    changesNothing(x -> x.lay(2, 0), BAD_VALUE);
    changesNothing(x -> x.lay(5, 0), BAD_VALUE);
    changesNothing(x -> x.lay(3, -1), BAD_VALUE);
    changesNothing(x -> x.lay(4, 10000), BAD_VALUE);
  }

  private static void readChangesNothing() {
    check.sentence("Errors, read", NOTHING);
    readOf("", -100);
    readOf("0", -100);
    readOf("492357810", -108);
    readOf("492357811", -108);
    readOf("49235781", -108);
    readOf("4923578166", -109);
    readOf("pcbmejkhifgldonq", -115);
    readOf("pcbmejkhifgldon", -115);
    readOf("pcbmejkhifgldonaa", -116);
  }

  private static void readOf(String text, int answer) {
    Supplier<Parlour> made = () -> {
      Parlour x = full();
      x.type(text);
      return x;
    };
    changesNothing(made, x -> x.read(), answer);
  }

  private static void swapChangesNothing() {
    check.sentence("Errors, swap", NOTHING);
    changesNothing(x -> x.swap(9, 1), UNKNOWN);
    changesNothing(x -> x.swap(1, -1), UNKNOWN);
    changesNothing(x -> x.swap(1, 1), BAD_VALUE);
    changesNothing(BoundErrorsTest::full, x -> x.swap(0, 1), NOT_POSSIBLE);
    changesNothing(BoundErrorsTest::full, x -> x.swap(1, 0), NOT_POSSIBLE);
    changesNothing(BoundErrorsTest::fullAndPoor, x -> x.swap(1, 2), FULL);
  }

  private static void freezeChangesNothing() {
    check.sentence("Errors, freeze", NOTHING);
    changesNothing(x -> x.freeze(9, 1), UNKNOWN);
    changesNothing(x -> x.freeze(-1, 1), UNKNOWN);
    changesNothing(x -> x.freeze(1, 0), BAD_VALUE);
    changesNothing(x -> x.freeze(1, 7), BAD_VALUE);
    changesNothing(BoundErrorsTest::full, x -> x.freeze(0, 1), NOT_POSSIBLE);
    changesNothing(BoundErrorsTest::fullAndPoor, x -> x.freeze(1, 1), FULL);
  }

  private static void stakeChangesNothing() {
    check.sentence("Errors, stake", NOTHING);
    changesNothing(x -> x.stake(8, 0, 1), UNKNOWN);
    changesNothing(x -> x.stake(-1, 0, 1), UNKNOWN);
    changesNothing(x -> x.stake(0, 3, 1), BAD_VALUE);
    changesNothing(x -> x.stake(0, -1, 1), BAD_VALUE);
    changesNothing(x -> x.stake(0, 0, 0), BAD_VALUE);
    changesNothing(x -> x.stake(0, 0, 100), BAD_VALUE);
    changesNothing(BoundErrorsTest::full, x -> x.stake(0, 0, 99), FULL);
    changesNothing(BoundErrorsTest::fullAndPoor, x -> x.stake(0, 0, 1), FULL);
    changesNothing(BoundErrorsTest::ten, x -> x.stake(0, 0, 1), FULL);
  }

  private static void setChangesNothing() {
    check.sentence("Errors, set", NOTHING);
    changesNothing(x -> x.set(3, 1), BAD_VALUE);
    changesNothing(x -> x.set(-1, 1), BAD_VALUE);
    changesNothing(x -> x.set(0, 0), BAD_VALUE);
    changesNothing(x -> x.set(0, 10), BAD_VALUE);
    changesNothing(x -> x.set(1, -1), BAD_VALUE);
    changesNothing(x -> x.set(2, 10), BAD_VALUE);
    changesNothing(BoundErrorsTest::full, x -> x.set(0, 3), NONE);
    changesNothing(x -> x.set(1, 1), NONE);
    changesNothing(x -> x.set(2, 2), NONE);
  }

  private static void typeChangesNothing() {
    check.sentence("Errors, type", NOTHING);
    changesNothing(BoundErrorsTest::sixty, x -> x.type('1'), FULL);
  }

  private static void undoChangesNothing() {
    check.sentence("Errors, undo", NOTHING);
    Supplier<Parlour> empty = () -> {
      Parlour x = full();
      for (int i = 0; i < 4; i++) { x.undo(); }
      return x;
    };
    changesNothing(empty, x -> x.undo(), NONE);
    changesNothing(check::open, x -> x.undo(), NONE);
  }

  private static void restoreChangesNothing() {
    check.sentence("Errors, restore", NOTHING);
    Supplier<Parlour> unkept = () -> {
      Parlour x = check.open();
      x.type(Parlour.MAGIC_3);
      for (int i = 0; i < 5; i++) { x.swap(0, 1); }
      x.stake(0, 0, 9);
      return x;
    };
    changesNothing(unkept, x -> x.restore(), NONE);
    changesNothing(check::open, x -> x.restore(), NONE);
  }

  private static void toldChangesNothing() {
    check.sentence("Errors, what is told", NOTHING);
    changesNothing(x -> x.cell(9, 0), UNKNOWN);
    changesNothing(x -> x.cell(0, 4), BAD_VALUE);
    changesNothing(x -> x.line(8, 0), UNKNOWN);
    changesNothing(x -> x.line(0, 5), BAD_VALUE);
    changesNothing(x -> x.rival(3, 0), UNKNOWN);
    changesNothing(x -> x.rival(0, 5), BAD_VALUE);
    changesNothing(x -> x.stakeOf(2, 0), UNKNOWN);
    changesNothing(BoundErrorsTest::full, x -> x.stakeOf(0, 7), BAD_VALUE);
    changesNothing(x -> x.odds(2), -1.0);
    changesNothing(x -> x.would(9, 0, 0), UNKNOWN);
    changesNothing(x -> x.would(0, 0, 0), BAD_VALUE);
    changesNothing(x -> x.would(0, 1, 3), BAD_VALUE);
    changesNothing(x -> x.count(16), BAD_VALUE);
    changesNothing(x -> x.count(-1), BAD_VALUE);
    Supplier<Parlour> frozen = () -> {
      Parlour x = check.open();
      x.type(Parlour.MAGIC_3);
      x.set(2, 0);
      x.keep();
      for (int cell = 1; cell < 9; cell++) { x.freeze(cell, 6); }
      return x;
    };
    changesNothing(frozen, x -> x.best(), NONE);
  }

  private static void answersOfWhatIsToldChangeNothing() {
    check.sentence("Promises 14 to 22", "Tells");
    changesNothing(BoundErrorsTest::full, x -> {
      for (int what = 0; what <= 3; what++) { x.cell(8, what); }
      for (int what = 0; what <= 4; what++) { x.line(7, what); }
      for (int what = 0; what <= 4; what++) { x.rival(2, what); }
      for (int what = 0; what <= 6; what++) { x.stakeOf(1, what); }
      for (int what = 0; what <= 2; what++) { x.would(0, 8, what); }
      for (int what = 0; what <= 15; what++) { x.count(what); }
      x.odds(0);
      x.best();
      x.meanOddsBits();
      return 0;
    }, 0);
  }

  // ---- how long an object is used

  private static void fiveHundredAndTwelveCalls() {
    check.sentence("What it is", "An object is used for at most 512 calls after it has been made");
    Parlour x = check.open();
    x.set(1, 0);
    for (int i = 2; i <= 511; i++) { x.swap(0, 1); }
    check.due(x.count(8), 510); // the 512th
    check.due("calls", x.calls(), 512);
    Parlour undone = check.open();
    for (int i = 1; i <= 511; i++) { undone.pass(); }
    check.due(undone.undo(), 3);
    Parlour read = check.open();
    for (int i = 0; i < 50; i++) { read.type(Parlour.MAGIC_3); }
    while (read.calls() < 511) { read.pass(); }
    check.due(read.read(), 0);
  }
}
