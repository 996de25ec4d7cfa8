import java.util.ArrayList;
import java.util.List;
import java.util.function.ToIntFunction;

/** The boundary cases of the sentences on history (Terms) and of the promises 11 to 13; a function for each sentence. */
public final class BoundHistoryTest {
  private static final int NONE = -5;
  private static final Check check = new Check("BoundHistoryTest");

  public static void main(String[] args) {
    atMostFour();
    theOldestIsDropped();
    theLatestComesBack();
    manyActsAndUndos();
    eachActRecords();
    whatIsNoActRecordsNothing();
    emptyAtFirst();
    oneSnapshot();
    aStateIsEverything();
    butTheText();
    butTheHistory();
    butTheSnapshot();

    theAnswerOfUndo();
    undoOfNothing();
    undoIsNoAct();

    inPlaceOfTheOneThatWas();
    theAnswerOfKeep();
    keepIsNoAct();

    theSnapshotStays();
    restoreIsAnAct();
    theAnswerOfRestore();
    noSnapshot();
    check.end();
  }

  /** A state in which next to everything is other than in a new object, with a full history. */
  private static Parlour rich() {
    Parlour x = check.open();
    x.read(Parlour.MAGIC_3);
    x.swap(0, 1);
    x.swap(0, 1);
    x.set(0, 7);
    x.set(1, 3);
    x.set(2, 4);
    x.freeze(3, 5);
    x.stake(0, 0, 10);
    x.stake(3, 1, 20);
    x.swap(4, 8);
    x.stake(7, 2, 30);
    return x;
  }

  private static final String RICH = "4 9 2 3 6 7 8 1 5 frozen 0 0 0 4 0 0 0 0 0 rivals 66 0 71 1 80 0 turn 1 pot 23"
      + " round 3 all 3 settings 7 3 4 stakes 0 0 0 10 15 1.0; 0 3 1 20 15 2.0; 1 7 2 30 16 1.375;";

  private static void ruin(Parlour x) {
    x.lay(4, 99);
    x.set(1, 9);
    x.freeze(15, 2);
    x.stake(9, 0, 5);
  }

  // ---- Terms, history

  private static void atMostFour() {
    check.sentence("History", "A history of at most 4 states is kept");
    Parlour x = check.open();
    for (int acts = 1; acts <= 3; acts++) {
      x.pass();
      check.due(x.count(13), acts);
    }
    x.pass();
    check.due(x.count(13), 4);
    x.pass();
    check.due(x.count(13), 4);
    for (int i = 0; i < 100; i++) { x.pass(); }
    check.due(x.count(13), 4);
    for (int left = 3; left >= 0; left--) { check.due(x.undo(), left); }
    check.due(x.undo(), NONE);
  }

  private static void theOldestIsDropped() {
    check.sentence("History", "when one more is recorded, the oldest one is dropped");
    Parlour four = check.open();
    for (int i = 0; i < 4; i++) { four.swap(0, 1); }
    for (int i = 0; i < 4; i++) { four.undo(); }
    check.due(four.count(8), 0); // the fourth keeps the first
    Parlour five = check.open();
    for (int i = 0; i < 5; i++) { five.swap(0, 1); }
    for (int i = 0; i < 4; i++) { five.undo(); }
    check.due(five.count(8), 1); // the fifth drops it
    check.due(five.undo(), NONE);
    check.due(five.count(8), 1);
    Parlour many = check.open();
    for (int i = 0; i < 37; i++) { many.swap(0, 1); }
    for (int i = 0; i < 4; i++) { many.undo(); }
    check.due(many.count(8), 33);
    check.due(many.undo(), NONE);
  }

  private static void theLatestComesBack() {
    check.sentence("History", "undo() removes and restores the latest one");
    Parlour x = check.open();
    x.set(0, 5);
    x.set(0, 6);
    x.set(0, 7);
    x.undo();
    check.due(x.count(10), 6);
    check.due(x.count(13), 2);
    x.undo();
    check.due(x.count(10), 5);
    x.set(0, 8); // what was removed does not come back
    x.undo();
    check.due(x.count(10), 5);
    x.undo();
    check.due(x.count(10), 3);
    check.due(x.undo(), NONE);
  }

  private static void manyActsAndUndos() {
    check.sentence("History", "A history of at most 4 states is kept; when one more is recorded, the oldest one is dropped; "
        + "undo() removes and restores the latest one.");
    for (int acts = 1; acts <= 9; acts++) {
      for (int undos = 0; undos <= 5; undos++) { actsAndUndos(acts, undos); }
    }
  }

  private static void actsAndUndos(int acts, int undos) {
    Parlour x = check.open();
    x.set(1, 0);
    x.undo();
    List<Integer> history = new ArrayList<>();
    int turn = 0;
    while (x.calls() + acts + 2 * undos < 200) {
      for (int i = 0; i < acts; i++) {
        history.add(turn);
        if (history.size() > 4) { history.remove(0); }
        turn = (turn + 1 + i % 2) % 3;
        x.pass();
        for (int more = i % 2; more > 0; more--) {
          history.add((turn + 2) % 3);
          if (history.size() > 4) { history.remove(0); }
          x.pass();
        }
      }
      for (int i = 0; i < undos; i++) {
        check.due(x.undo(), history.isEmpty() ? NONE : history.size() - 1);
        if (!history.isEmpty()) { turn = history.remove(history.size() - 1); }
        check.due(x.count(4), turn);
      }
    }
  }

  private static void eachActRecords() {
    check.sentence("History", "Each call of a method that is described as an act, and returns no error and not NONE, "
        + "records the state that was before it.");
    records("lay", x -> x.lay(4, 5));
    records("read", x -> x.read());
    records("swap", x -> x.swap(0, 1));
    records("freeze", x -> x.freeze(0, 6));
    records("stake", x -> x.stake(0, 0, 50));
    records("pass", x -> x.pass());
    records("set", x -> x.set(0, 9));
    records("restore", x -> x.restore());
    records("a swap that settles", x -> {
      x.set(0, 1);
      return x.swap(0, 1);
    });
    Parlour won = check.open(); // a swap that wins
    won.read(Parlour.MAGIC_3);
    won.swap(0, 1);
    String before = won.state();
    won.swap(0, 1);
    check.due(won.undo(), 2);
    check.due("undone", won.state(), before);
  }

  private static void records(String act, ToIntFunction<Parlour> call) {
    Parlour few = check.open();
    few.type(Parlour.MAGIC_4);
    few.pass();
    few.keep();
    few.undo();
    int recorded = few.count(13);
    int answer = call.applyAsInt(few);
    check.due(act + " is no error", answer >= 0 ? 1 : 0, 1);
    check.due(act + " records", few.count(13) > recorded ? 1 : 0, 1);
    Parlour x = rich();
    x.clearText();
    x.type(Parlour.MAGIC_4);
    x.keep();
    x.lay(3, 7);
    x.stake(0, 1, 3);
    x.set(0, 1);
    String before = x.state();
    check.due(act + " is no error", call.applyAsInt(x) >= 0 ? 1 : 0, 1);
    check.due(x.count(13), 4);
    check.due(x.undo(), 3);
    check.due(act + " undone", x.state(), before);
  }

  private static void whatIsNoActRecordsNothing() {
    check.sentence("History", "a method that is described as an act");
    Parlour x = check.open();
    x.type('1');
    x.clearText();
    x.keep();
    x.cell(0, 0);
    x.line(0, 0);
    x.rival(0, 0);
    x.stakeOf(0, 0);
    x.odds(0);
    x.would(0, 1, 0);
    x.best();
    x.count(0);
    x.meanOddsBits();
    x.undo();
    check.due(x.count(13), 0);
    Parlour full = check.open();
    for (int i = 1; i <= 4; i++) { full.set(0, i + 3); }
    full.type('1');
    full.clearText();
    full.keep();
    full.best();
    check.due(full.count(13), 4);
    for (int left = 3; left >= 0; left--) { check.due(full.undo(), left); }
    check.due(full.count(10), 3); // the oldest was not dropped
  }

  private static void emptyAtFirst() {
    check.sentence("History", "There is one snapshot, empty at first.");
    Parlour x = check.open();
    check.due(x.restore(), NONE);
    x.swap(0, 1);
    check.due(x.restore(), NONE);
    check.due(x.count(8), 1);
    x.keep();
    check.due(x.restore(), x.count(2));
  }

  private static void oneSnapshot() {
    check.sentence("History", "There is one snapshot");
    Parlour x = check.open();
    x.set(0, 5);
    x.keep();
    x.set(0, 6);
    x.keep();
    x.set(0, 7);
    x.restore();
    check.due(x.count(10), 6);
    x.restore();
    check.due(x.count(10), 6); // none is behind it
  }

  private static void aStateIsEverything() {
    check.sentence("History", "A state is everything but the text, the history and the snapshot.");
    Parlour undone = rich();
    check.due("rich", undone.state(), RICH);
    ruin(undone);
    for (int i = 0; i < 4; i++) { undone.undo(); }
    check.due("undone", undone.state(), RICH);
    Parlour restored = rich();
    restored.keep();
    ruin(restored);
    restored.swap(0, 1);
    restored.restore();
    check.due("restored", restored.state(), RICH);
    Parlour first = check.open(); // and back to the first values
    first.keep();
    first.lay(4, 0);
    first.set(0, 9);
    first.set(1, 0);
    first.set(2, 9);
    first.freeze(15, 1);
    first.stake(9, 1, 99);
    first.swap(0, 1);
    first.swap(0, 1);
    first.restore();
    check.due("first", first.state(), "1 2 3 4 5 6 7 8 9 frozen 0 0 0 0 0 0 0 0 0 rivals 100 0 100 0 100 0 turn 0 pot 0"
        + " round 0 all 0 settings 3 1 2 stakes");
  }

  private static void butTheText() {
    check.sentence("History", "everything but the text");
    Parlour x = check.open();
    x.type("12345678");
    x.keep();
    x.pass();
    x.type('9');
    check.due(x.undo(), 0);
    check.due(x.count(14), 9);
    check.due(x.restore(), 24);
    check.due(x.count(14), 9);
    check.due(x.read(), 24);
    x.clearText();
    x.undo();
    check.due(x.count(14), 0);
    x.restore();
    check.due(x.count(14), 0);
    check.due(x.read(), -100);
  }

  private static void butTheHistory() {
    check.sentence("History", "everything but ... the history");
    Parlour x = check.open();
    x.pass();
    x.keep(); // one state was there
    x.pass();
    x.pass();
    x.restore();
    check.due(x.count(13), 4);
    check.due(x.count(4), 1);
    x.undo();
    check.due(x.count(4), 0);
    x.undo();
    check.due(x.count(4), 2);
    x.undo();
    check.due(x.count(4), 1);
    check.due(x.undo(), 0);
    check.due(x.count(4), 0);
  }

  private static void butTheSnapshot() {
    check.sentence("History", "everything but ... the snapshot");
    Parlour x = check.open();
    x.set(0, 5);
    x.keep();
    x.undo();
    check.due(x.count(10), 3);
    check.due(x.restore(), 24); // undo took it back not
    check.due(x.count(10), 5);
    x.set(0, 6);
    x.keep();
    x.undo();
    x.undo();
    check.due(x.count(10), 3);
    x.restore();
    check.due(x.count(10), 6);
  }

  // ---- Promise 11

  private static void theAnswerOfUndo() {
    check.sentence("Promise 11", "Returns the number of states that are left");
    Parlour x = check.open();
    x.pass();
    check.due(x.undo(), 0);
    for (int i = 0; i < 6; i++) { x.pass(); }
    for (int left = 3; left >= 0; left--) {
      check.due(x.undo(), left);
      check.due(x.count(13), left);
    }
  }

  private static void undoOfNothing() {
    check.sentence("Promise 11", "NONE if the history is empty");
    Parlour x = check.open();
    check.due(x.undo(), NONE);
    x.pass();
    check.due(x.undo(), 0); // the last one that is left is no NONE
    check.due(x.undo(), NONE);
    check.due(x.undo(), NONE);
    check.due(x.count(13), 0);
    check.due(x.count(4), 0);
    x.pass();
    check.due(x.count(13), 1);
  }

  private static void undoIsNoAct() {
    check.sentence("Promise 11", "Removes and restores the latest state of the history.");
    Parlour x = check.open();
    x.pass();
    x.pass();
    x.undo();
    check.due(x.count(13), 1);
    x.undo();
    check.due(x.count(4), 0); // it was not undone itself
    check.due(x.count(13), 0);
  }

  // ---- Promise 12

  private static void inPlaceOfTheOneThatWas() {
    check.sentence("Promise 12", "Takes a snapshot of the state, in place of the one that was.");
    Parlour x = rich();
    x.keep();
    x.lay(4, 3);
    x.keep();
    String kept = x.state();
    x.lay(3, 0);
    x.swap(0, 1);
    x.restore();
    check.due("the later one", x.state(), kept);
  }

  private static void theAnswerOfKeep() {
    check.sentence("Promise 12", "Returns the way off.");
    Parlour x = check.open();
    check.due(x.keep(), 24);
    x.lay(3, 4544);
    check.due(x.keep(), 0);
    x.lay(4, 77);
    check.due(x.keep(), 66);
    check.due(x.keep(), 66);
    check.due(x.count(2), 66);
  }

  private static void keepIsNoAct() {
    check.sentence("Promise 12", "Takes a snapshot of the state");
    Parlour x = check.open();
    x.keep();
    check.due(x.count(13), 0);
    check.due(x.undo(), NONE);
    Parlour y = rich();
    check.due(y.keep(), y.count(2));
    check.due("the state stays", y.state(), RICH);
  }

  // ---- Promise 13

  private static void theSnapshotStays() {
    check.sentence("Promise 13", "Restores the state of the snapshot, which stays.");
    Parlour x = rich();
    x.keep();
    for (int i = 0; i < 3; i++) {
      ruin(x);
      x.restore();
      check.due("restored", x.state(), RICH);
    }
    Parlour apart = rich(); // what is done behind it does not change it
    apart.keep();
    apart.restore();
    apart.swap(0, 1);
    apart.stake(1, 1, 1);
    apart.freeze(5, 1);
    apart.set(1, 0);
    apart.restore();
    check.due("restored again", apart.state(), RICH);
    apart.undo();
    apart.restore();
    check.due("restored behind undo", apart.state(), RICH);
  }

  private static void restoreIsAnAct() {
    check.sentence("Promise 13", "This is an act.");
    Parlour x = rich();
    x.keep();
    x.lay(4, 1);
    String before = x.state();
    x.restore();
    check.due(x.count(13), 4);
    check.due(x.undo(), 3);
    check.due("undone", x.state(), before);
    Parlour same = check.open();
    same.keep();
    same.restore();
    same.restore(); // what changes nothing is one, too
    check.due(same.count(13), 2);
  }

  private static void theAnswerOfRestore() {
    check.sentence("Promise 13", "Returns the way off then");
    Parlour x = check.open();
    x.lay(3, 4544);
    x.keep();
    x.lay(4, 77);
    check.due(x.restore(), 0);
    x.lay(4, 77);
    x.keep();
    x.lay(3, 0);
    check.due(x.restore(), 66);
    check.due(x.count(2), 66);
    check.due(x.restore(), 66);
  }

  private static void noSnapshot() {
    check.sentence("Promise 13", "NONE if there is no snapshot");
    Parlour x = check.open();
    check.due(x.restore(), NONE);
    x.pass();
    check.due(x.restore(), NONE);
    check.due(x.count(13), 1);
    check.due(x.count(4), 1);
    x.undo();
    check.due(x.restore(), NONE);
    x.keep();
    check.due(x.restore(), 24);
  }
}
