/**
 * An object of the class and the second writing of the document beside it: each call is made of both, and the answers
 * are compared. The answer that is due comes back.
 */
final class Both {
  final Model model = new Model();
  private final Check check;
  private final Parlour real;

  Both(Check check) {
    this.check = check;
    real = check.open();
  }

  int calls() { return real.calls(); }

  private int same(int got, int want) {
    check.due(got, want);
    return want;
  }

  int lay(int side, int seed) { return same(real.lay(side, seed), model.lay(side, seed)); }

  int read() { return same(real.read(), model.read()); }

  int swap(int one, int other) { return same(real.swap(one, other), model.swap(one, other)); }

  int freeze(int cell, int swaps) { return same(real.freeze(cell, swaps), model.freeze(cell, swaps)); }

  int stake(int line, int kind, int amount) { return same(real.stake(line, kind, amount), model.stake(line, kind, amount)); }

  int pass() { return same(real.pass(), model.pass()); }

  int set(int which, int value) { return same(real.set(which, value), model.set(which, value)); }

  int type(int character) { return same(real.type(character), model.type((char) character)); }

  int clearText() { return same(real.clearText(), model.clearText()); }

  int undo() { return same(real.undo(), model.undo()); }

  int keep() { return same(real.keep(), model.keep()); }

  int restore() { return same(real.restore(), model.restore()); }

  int cell(int cell, int what) { return same(real.cell(cell, what), model.cell(cell, what)); }

  int line(int line, int what) { return same(real.line(line, what), model.line(line, what)); }

  int rival(int rival, int what) { return same(real.rival(rival, what), model.rival(rival, what)); }

  int stakeOf(int stake, int what) { return same(real.stakeOf(stake, what), model.stakeOf(stake, what)); }

  float odds(int stake) {
    float want = model.odds(stake);
    check.due(real.odds(stake), want);
    return want;
  }

  int would(int one, int other, int what) { return same(real.would(one, other, what), model.would(one, other, what)); }

  int best() { return same(real.best(), model.best()); }

  int count(int what) { return same(real.count(what), model.count(what)); }

  int meanOddsBits() { return same(real.meanOddsBits(), model.meanOddsBits()); }

  /** Puts this text in place of the one that is there, and reads it. */
  int read(String text) {
    clearText();
    for (int i = 0; i < text.length(); i++) { type(text.charAt(i)); }
    return read();
  }

  void passTo(int rival) {
    while (model.now.turn != rival) { pass(); }
  }

  int cells() { return model.cells(); }

  int lines() { return model.lines().size(); }

  void cellsTold() {
    for (int cell = 0; cell < cells(); cell++) {
      for (int what = 0; what <= 3; what++) { cell(cell, what); }
    }
  }

  void linesTold() {
    for (int line = 0; line < lines(); line++) {
      for (int what = 0; what <= 4; what++) { line(line, what); }
    }
  }

  void rivalsTold() {
    for (int rival = 0; rival < 3; rival++) {
      for (int what = 0; what <= 4; what++) { rival(rival, what); }
    }
  }

  void stakesTold() {
    for (int stake = 0; stake < model.now.stakes.size(); stake++) {
      for (int what = 0; what <= 6; what++) { stakeOf(stake, what); }
      odds(stake);
    }
    meanOddsBits();
  }

  void countsTold() {
    for (int what = 0; what <= 15; what++) { count(what); }
  }

  /** The numbers, freezes, rivals, counts and stakes: all that a state is; some 50 to 140 calls. */
  void stateTold() {
    for (int cell = 0; cell < cells(); cell++) {
      cell(cell, 0);
      cell(cell, 1);
    }
    for (int rival = 0; rival < 3; rival++) {
      rival(rival, 0);
      rival(rival, 1);
    }
    countsTold();
    for (int stake = 0; stake < model.now.stakes.size(); stake++) {
      for (int what = 0; what <= 4; what++) { stakeOf(stake, what); }
      odds(stake);
    }
  }
}
