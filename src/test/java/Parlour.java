/**
 * One object of the class, with its calls counted and told: of what comes behind the 512th call the document promises
 * nothing, so no test may look at it.
 */
final class Parlour {
  private static final int MOST_CALLS = 512;

  static final String IN_ORDER_3 = "123456789";
  static final String IN_ORDER_4 = "abcdefghijklmnop";
  static final String MAGIC_3 = "492357816";
  static final String MAGIC_4 = "pcbmejkhifgldona";

  private final Check check;
  private final SquareStakes real = new SquareStakes();
  private int calls = 0;

  Parlour(Check check) { this.check = check; }

  private void call(String name, int... arguments) {
    calls++;
    if (calls > MOST_CALLS) { throw new IllegalStateException("the test makes more than " + MOST_CALLS + " calls"); }
    StringBuilder told = new StringBuilder(name).append('(');
    for (int i = 0; i < arguments.length; i++) { told.append(i == 0 ? "" : ", ").append(arguments[i]); }
    check.called(told.append("), call ").append(calls).append(',').toString());
  }

  int calls() { return calls; }

  int lay(int side, int seed) { call("lay", side, seed); return real.lay(side, seed); }

  int read() { call("read"); return real.read(); }

  int swap(int one, int other) { call("swap", one, other); return real.swap(one, other); }

  int freeze(int cell, int swaps) { call("freeze", cell, swaps); return real.freeze(cell, swaps); }

  int stake(int line, int kind, int amount) { call("stake", line, kind, amount); return real.stake(line, kind, amount); }

  int pass() { call("pass"); return real.pass(); }

  int set(int which, int value) { call("set", which, value); return real.set(which, value); }

  int type(int character) { call("type", character); return real.type((char) character); }

  int clearText() { call("clearText"); return real.clearText(); }

  int undo() { call("undo"); return real.undo(); }

  int keep() { call("keep"); return real.keep(); }

  int restore() { call("restore"); return real.restore(); }

  int cell(int cell, int what) { call("cell", cell, what); return real.cell(cell, what); }

  int line(int line, int what) { call("line", line, what); return real.line(line, what); }

  int rival(int rival, int what) { call("rival", rival, what); return real.rival(rival, what); }

  int stakeOf(int stake, int what) { call("stakeOf", stake, what); return real.stakeOf(stake, what); }

  float odds(int stake) { call("odds", stake); return real.odds(stake); }

  int would(int one, int other, int what) { call("would", one, other, what); return real.would(one, other, what); }

  int best() { call("best"); return real.best(); }

  int count(int what) { call("count", what); return real.count(what); }

  int meanOddsBits() { call("meanOddsBits"); return real.meanOddsBits(); }

  /** Puts this text in place of the one that is there. */
  void type(String text) {
    clearText();
    for (int i = 0; i < text.length(); i++) { type(text.charAt(i)); }
  }

  int read(String text) {
    type(text);
    return read();
  }

  void passTo(int rival) {
    for (int turn = count(4); turn != rival; turn = (turn + 1) % 3) { pass(); }
  }

  String numbers() {
    StringBuilder told = new StringBuilder();
    int cells = count(0) * count(0);
    for (int cell = 0; cell < cells; cell++) { told.append(cell == 0 ? "" : " ").append(cell(cell, 0)); }
    return told.toString();
  }

  String sums() {
    StringBuilder told = new StringBuilder();
    int lines = 2 * count(0) + 2;
    for (int line = 0; line < lines; line++) { told.append(line == 0 ? "" : " ").append(line(line, 0)); }
    return told.toString();
  }

  /** All that a state is: the square, freezes, rivals, settings, stakes, swaps. */
  String state() {
    StringBuilder told = new StringBuilder(numbers()).append(" frozen");
    int cells = count(0) * count(0);
    for (int cell = 0; cell < cells; cell++) { told.append(' ').append(cell(cell, 1)); }
    told.append(" rivals");
    for (int rival = 0; rival < 3; rival++) { told.append(' ').append(rival(rival, 0)).append(' ').append(rival(rival, 1)); }
    told.append(" turn ").append(count(4)).append(" pot ").append(count(5));
    told.append(" round ").append(count(7)).append(" all ").append(count(8));
    told.append(" settings ").append(count(10)).append(' ').append(count(11)).append(' ').append(count(12));
    told.append(" stakes");
    int stakes = count(6);
    for (int stake = 0; stake < stakes; stake++) {
      for (int what = 0; what <= 4; what++) { told.append(' ').append(stakeOf(stake, what)); }
      told.append(' ').append(odds(stake)).append(';');
    }
    return told.toString();
  }

  /** The state, the text, each state of the history and the snapshot. The object is another one behind it. */
  String everything() {
    StringBuilder told = new StringBuilder(state());
    told.append(" history ").append(count(13)).append(" text ").append(count(14));
    for (int left = count(13); left > 0; left--) { told.append("\n  undone, ").append(undo()).append(": ").append(outline()); }
    told.append("\n  restored, ").append(restore()).append(": ").append(outline());
    return told.append("\n  read, ").append(read()).append(": ").append(numbers()).toString();
  }

  private String outline() {
    StringBuilder told = new StringBuilder();
    for (int what = 0; what <= 15; what++) { told.append(what == 0 ? "" : " ").append(count(what)); }
    return told.toString();
  }
}
